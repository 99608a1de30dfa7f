/-! ===== bounds hold on behind each act ===== -/
section IV
variable {m dl : Nat} {B : Int} {tm ex s pt : Int → Int} {d sum : Int}
theorem q_fl_at {l b k : Int} (h : k < 54 ∨ 86 ≤ k) (hl0 : 0 ≤ l) (hl1 : l < 8) : q_fl tm l b sum s k = s k := by
  unfold q_fl
  simp (disch := omega) only [Int.add_zero, Int.mul_zero, Int.reduceMul, Int.reduceAdd, Int.mul_one, Int.tdiv_eq_ediv_of_nonneg, Int.tmod_eq_emod_of_nonneg, ↓reduceIte, ↓zLet_eq, ↓zRd_ok, ↓zWr_ok, ↓zC_V, ↓zC_I, ↓zC_J, zUp_at, zUp_ne, q_up_at, q_up_ne, w32_of, w64_of, q_le_T, q_le_F, q_lt_T, q_lt_F, q_eq_T, q_eq_F, true_or, or_true, or_false, false_or, false_and, and_false]
theorem q_inv.fl {l b : Int} (h : q_inv m dl B s) (h6 : m ≤ 6) (ht : q_tm tm) (hB0 : 0 ≤ B) (hl : (l = 0 ∧ b = 0) ∨ (2 ≤ l ∧ l < dl + 2 ∧ b = 1)) (hdl : dl ≤ 6) (hs0 : 0 ≤ sum) (hs1 : sum ≤ 9999) : q_inv m dl (B + 1) (q_fl tm l b sum s) :=
  ⟨h.1.congr h6 (by omega) (fun k _ _ => q_fl_at (by omega) (by omega) (by omega)), h.2.1.congr (by omega) (fun k _ _ => q_fl_at (by omega) (by omega) (by omega)), h.2.2.1.fl ht hB0 hl hdl hs0 hs1, h.2.2.2.1.congr (by omega) (fun k _ _ => q_fl_at (by omega) (by omega) (by omega)), fun k hk => by rw [q_fl_at (by omega) (by omega) (by omega)]; exact h.2.2.2.2 k hk⟩
theorem q_inv.sl1 (h : q_inv m dl B s) (h6 : m ≤ 6) (hd0 : 0 ≤ d) (hd1 : d < 6) (hs0 : 0 ≤ sum) (hs1 : sum ≤ 9999) : q_inv m dl (B + 1) (q_sl1 d sum s) := by
  unfold q_sl1
  refine ⟨h.1.congr h6 (by omega) (fun k _ _ => q_up_ne (by omega)), fun d' hd' => ?_, h.2.2.1.congr (by omega) (fun k _ _ => q_up_ne (by omega)), h.2.2.2.1.congr (by omega) (fun k _ _ => q_up_ne (by omega)), fun k hk => by rw [q_up_ne (by omega)]; exact h.2.2.2.2 k hk⟩
  have h1 := h.2.1 d' hd'
  by_cases e : (d' : Int) = d
  · subst e
    simp (disch := omega) only [Int.add_zero, Int.mul_zero, Int.reduceMul, Int.reduceAdd, Int.mul_one, Int.tdiv_eq_ediv_of_nonneg, Int.tmod_eq_emod_of_nonneg, ↓reduceIte, ↓zLet_eq, ↓zRd_ok, ↓zWr_ok, ↓zC_V, ↓zC_I, ↓zC_J, zUp_at, zUp_ne, q_up_at, q_up_ne, w32_of, w64_of, q_le_T, q_le_F, q_lt_T, q_lt_F, q_eq_T, q_eq_F, true_or, or_true, or_false, false_or, false_and, and_false, and_self, implies_true, true_and, and_true, ne_eq, not_true_eq_false, not_false_eq_true, false_implies, true_implies]
  · simp (disch := omega) only [Int.add_zero, Int.mul_zero, Int.reduceMul, Int.reduceAdd, Int.mul_one, Int.tdiv_eq_ediv_of_nonneg, Int.tmod_eq_emod_of_nonneg, ↓reduceIte, ↓zLet_eq, ↓zRd_ok, ↓zWr_ok, ↓zC_V, ↓zC_I, ↓zC_J, zUp_at, zUp_ne, q_up_at, q_up_ne, w32_of, w64_of, q_le_T, q_le_F, q_lt_T, q_lt_F, q_eq_T, q_eq_F, true_or, or_true, or_false, false_or, false_and, and_false, and_self, implies_true, true_and, and_true, ne_eq, not_true_eq_false, not_false_eq_true, false_implies, true_implies]
theorem q_slM_in (h : q_inv m dl B s) (h6 : m ≤ 6) (hdl : dl ≤ 6) (ht : q_tm tm) (hB0 : 0 ≤ B) (hd0 : 0 ≤ d) (hd1 : d < dl) (hs0 : 0 ≤ sum) (hs1 : sum ≤ 9999) : 0 ≤ q_slM tm d sum s ∧ q_slM tm d sum s ≤ sum := by
  have h1 := h.sl1 h6 hd0 (by omega) hs0 hs1
  have key : ∀ (s' : Int → Int) (B' : Int) (l b : Int), q_iL dl B' s' → (l = 0 ∧ b = 0) ∨ (2 ≤ l ∧ l < dl + 2 ∧ b = 1) → 0 ≤ q_fM tm l b sum s' ∧ q_fM tm l b sum s' ≤ sum := fun s' B' l b hL hl => by
    obtain ⟨-, ⟨a1, a2⟩, ⟨b1, b2⟩, -⟩ := ht
    have hL1 := hL.1 l.toNat (by omega)
    rw [Int.toNat_of_nonneg (by omega)] at hL1
    have h11 := hL.1 1 (by decide)
    have e58 : (54 + 4 * ((1 : Nat) : Int)) = 58 := rfl
    rw [e58] at h11
    simp only [Int.reduceAdd] at h11
    have hc : 0 ≤ q_cc l b s' := by unfold q_cc; split <;> omega
    have hp : 0 ≤ q_cp l b s' := by unfold q_cp; split <;> omega
    have hst := q_st_in (tm := tm) (c := q_cc l b s') (p := q_cp l b s') (g := s' (54 + 4 * l + 2)) (t := s' (54 + 4 * l + 3)) hc hp hs0
    have hM := q_sM_in (tm := tm) (c := q_cc l b s') (p := q_cp l b s') (g := s' (54 + 4 * l + 2)) (t := s' (54 + 4 * l + 3)) (sum := sum) a1 a2 b1 (by omega) hc hp hs0
    unfold q_fM
    omega
  unfold q_slM
  split
  · exact key _ (B + 1 + 1) _ _ (h1.fl h6 ht (by omega) (Or.inl ⟨rfl, rfl⟩) hdl hs0 hs1).2.2.1 (Or.inr ⟨by omega, by omega, rfl⟩)
  · exact key _ (B + 1) _ _ h1.2.2.1 (Or.inl ⟨rfl, rfl⟩)
theorem q_inv.sl2 (h : q_inv m dl B s) (h6 : m ≤ 6) (hdl : dl ≤ 6) (ht : q_tm tm) (hB0 : 0 ≤ B) (hd0 : 0 ≤ d) (hd1 : d < dl) (hs0 : 0 ≤ sum) (hs1 : sum ≤ 9999) : q_inv m dl (B + 3) (q_sl2 tm d sum s) := by
  have h1 := h.sl1 h6 hd0 (by omega) hs0 hs1
  have h2 := h1.fl h6 ht (by omega) (Or.inl ⟨rfl, rfl⟩) hdl hs0 hs1
  unfold q_sl2
  split
  · exact (h2.fl h6 ht (by omega) (Or.inr ⟨by omega, by omega, rfl⟩) hdl hs0 hs1).mono h6 (by omega)
  · exact h2.mono h6 (by omega)
theorem q_inv.sl3 {M : Int} (h : q_inv m dl B s) (h6 : m ≤ 6) (ht : q_tm tm) (hM0 : 0 ≤ M) (hM1 : M ≤ 9999) : q_inv m dl (B + 1) (q_sl3 tm M s) := by
  have e : ∀ k, k < 86 ∨ 89 ≤ k → q_sl3 tm M s k = s k := fun k hk => by unfold q_sl3; simp (disch := omega) only [Int.add_zero, Int.mul_zero, Int.reduceMul, Int.reduceAdd, Int.mul_one, Int.tdiv_eq_ediv_of_nonneg, Int.tmod_eq_emod_of_nonneg, ↓reduceIte, ↓zLet_eq, ↓zRd_ok, ↓zWr_ok, ↓zC_V, ↓zC_I, ↓zC_J, zUp_at, zUp_ne, q_up_at, q_up_ne, w32_of, w64_of, q_le_T, q_le_F, q_lt_T, q_lt_F, q_eq_T, q_eq_F, true_or, or_true, or_false, false_or, false_and, and_false]
  refine ⟨h.1.congr h6 (by omega) (fun k _ _ => e k (by omega)), h.2.1.congr (by omega) (fun k _ _ => e k (by omega)), h.2.2.1.congr (by omega) (fun k _ _ => e k (by omega)), ?_, fun k hk => by rw [e k (by omega)]; exact h.2.2.2.2 k hk⟩
  obtain ⟨-, -, -, -, -, ⟨c1, c2⟩, -⟩ := ht
  have hp := q_mb hM0 hM1 c1 c2
  have hp2 : M * tm 5 ≤ M * 100 := Int.mul_le_mul_of_nonneg_left c2 hM0
  have h1 := h.2.2.2.1
  unfold q_iP at h1 ⊢
  unfold q_sl3
  simp (disch := omega) only [Int.add_zero, Int.mul_zero, Int.reduceMul, Int.reduceAdd, Int.mul_one, Int.tdiv_eq_ediv_of_nonneg, Int.tmod_eq_emod_of_nonneg, ↓reduceIte, ↓zLet_eq, ↓zRd_ok, ↓zWr_ok, ↓zC_V, ↓zC_I, ↓zC_J, zUp_at, zUp_ne, q_up_at, q_up_ne, w32_of, w64_of, q_le_T, q_le_F, q_lt_T, q_lt_F, q_eq_T, q_eq_F, true_or, or_true, or_false, false_or, false_and, and_false, and_self, implies_true, true_and, and_true, ne_eq, not_true_eq_false, not_false_eq_true, false_implies, true_implies]
theorem q_inv.sl4 (h : q_inv m dl B s) (h6 : m ≤ 6) (hdl : dl ≤ 6) (hB0 : 0 ≤ B) (hB1 : B ≤ 900) (hd0 : 0 ≤ d) (hd1 : d < dl) : q_inv m dl (B + 1) (q_sl4 d s) := by
  have e : ∀ k, k < 30 ∨ (54 ≤ k ∧ k < 58) ∨ 86 ≤ k → q_sl4 d s k = s k := fun k hk => by unfold q_sl4; simp (disch := omega) only [Int.add_zero, Int.mul_zero, Int.reduceMul, Int.reduceAdd, Int.mul_one, Int.tdiv_eq_ediv_of_nonneg, Int.tmod_eq_emod_of_nonneg, ↓reduceIte, ↓zLet_eq, ↓zRd_ok, ↓zWr_ok, ↓zC_V, ↓zC_I, ↓zC_J, zUp_at, zUp_ne, q_up_at, q_up_ne, w32_of, w64_of, q_le_T, q_le_F, q_lt_T, q_lt_F, q_eq_T, q_eq_F, true_or, or_true, or_false, false_or, false_and, and_false]
  refine ⟨h.1.congr h6 (by omega) (fun k _ _ => e k (by omega)), fun d' hd' => ?_, ⟨fun l hl => ?_, fun l h0 hl => ?_⟩, h.2.2.2.1.congr (by omega) (fun k _ _ => e k (by omega)), fun k hk => by rw [e k (by omega)]; exact h.2.2.2.2 k hk⟩
  · have h1 := h.2.1 d' hd'
    unfold q_sl4
    by_cases e : (d' : Int) = d
    · subst e
      simp (disch := omega) only [Int.add_zero, Int.mul_zero, Int.reduceMul, Int.reduceAdd, Int.mul_one, Int.tdiv_eq_ediv_of_nonneg, Int.tmod_eq_emod_of_nonneg, ↓reduceIte, ↓zLet_eq, ↓zRd_ok, ↓zWr_ok, ↓zC_V, ↓zC_I, ↓zC_J, zUp_at, zUp_ne, q_up_at, q_up_ne, w32_of, w64_of, q_le_T, q_le_F, q_lt_T, q_lt_F, q_eq_T, q_eq_F, true_or, or_true, or_false, false_or, false_and, and_false, and_self, implies_true, true_and, and_true, ne_eq, not_true_eq_false, not_false_eq_true, false_implies, true_implies]
    · simp (disch := omega) only [Int.add_zero, Int.mul_zero, Int.reduceMul, Int.reduceAdd, Int.mul_one, Int.tdiv_eq_ediv_of_nonneg, Int.tmod_eq_emod_of_nonneg, ↓reduceIte, ↓zLet_eq, ↓zRd_ok, ↓zWr_ok, ↓zC_V, ↓zC_I, ↓zC_J, zUp_at, zUp_ne, q_up_at, q_up_ne, w32_of, w64_of, q_le_T, q_le_F, q_lt_T, q_lt_F, q_eq_T, q_eq_F, true_or, or_true, or_false, false_or, false_and, and_false, and_self, implies_true, true_and, and_true, ne_eq, not_true_eq_false, not_false_eq_true, false_implies, true_implies]
  · have h1 := h.2.2.1.1 l hl
    by_cases e1 : l = 1
    · subst e1
      have h2 := h.2.2.1.1 (2 + d).toNat (by omega)
      rw [Int.toNat_of_nonneg (by omega)] at h2
      have e58 : (54 + 4 * ((1 : Nat) : Int)) = 58 := rfl
      rw [e58] at h1 ⊢
      simp only [Int.reduceAdd] at h1 ⊢
      unfold q_sl4
      simp (disch := omega) only [Int.add_zero, Int.mul_zero, Int.reduceMul, Int.reduceAdd, Int.mul_one, Int.tdiv_eq_ediv_of_nonneg, Int.tmod_eq_emod_of_nonneg, ↓reduceIte, ↓zLet_eq, ↓zRd_ok, ↓zWr_ok, ↓zC_V, ↓zC_I, ↓zC_J, zUp_at, zUp_ne, q_up_at, q_up_ne, w32_of, w64_of, q_le_T, q_le_F, q_lt_T, q_lt_F, q_eq_T, q_eq_F, true_or, or_true, or_false, false_or, false_and, and_false, and_self, implies_true, true_and, and_true, ne_eq, not_true_eq_false, not_false_eq_true, false_implies, true_implies] <;> omega
    · unfold q_sl4
      by_cases e : (l : Int) = 2 + d
      · rw [e]
        simp (disch := omega) only [Int.add_zero, Int.mul_zero, Int.reduceMul, Int.reduceAdd, Int.mul_one, Int.tdiv_eq_ediv_of_nonneg, Int.tmod_eq_emod_of_nonneg, ↓reduceIte, ↓zLet_eq, ↓zRd_ok, ↓zWr_ok, ↓zC_V, ↓zC_I, ↓zC_J, zUp_at, zUp_ne, q_up_at, q_up_ne, w32_of, w64_of, q_le_T, q_le_F, q_lt_T, q_lt_F, q_eq_T, q_eq_F, true_or, or_true, or_false, false_or, false_and, and_false, and_self, implies_true, true_and, and_true, ne_eq, not_true_eq_false, not_false_eq_true, false_implies, true_implies] <;> (rw [e] at h1; omega)
      · simp (disch := omega) only [Int.add_zero, Int.mul_zero, Int.reduceMul, Int.reduceAdd, Int.mul_one, Int.tdiv_eq_ediv_of_nonneg, Int.tmod_eq_emod_of_nonneg, ↓reduceIte, ↓zLet_eq, ↓zRd_ok, ↓zWr_ok, ↓zC_V, ↓zC_I, ↓zC_J, zUp_at, zUp_ne, q_up_at, q_up_ne, w32_of, w64_of, q_le_T, q_le_F, q_lt_T, q_lt_F, q_eq_T, q_eq_F, true_or, or_true, or_false, false_or, false_and, and_false, and_self, implies_true, true_and, and_true, ne_eq, not_true_eq_false, not_false_eq_true, false_implies, true_implies] <;> omega
  · have h1 := h.2.2.1.2 l h0 hl
    unfold q_sl4
    simp (disch := omega) only [Int.add_zero, Int.mul_zero, Int.reduceMul, Int.reduceAdd, Int.mul_one, Int.tdiv_eq_ediv_of_nonneg, Int.tmod_eq_emod_of_nonneg, ↓reduceIte, ↓zLet_eq, ↓zRd_ok, ↓zWr_ok, ↓zC_V, ↓zC_I, ↓zC_J, zUp_at, zUp_ne, q_up_at, q_up_ne, w32_of, w64_of, q_le_T, q_le_F, q_lt_T, q_lt_F, q_eq_T, q_eq_F, true_or, or_true, or_false, false_or, false_and, and_false, and_self, implies_true, true_and, and_true, ne_eq, not_true_eq_false, not_false_eq_true, false_implies, true_implies]
theorem q_inv.sb {last : Int} (h : q_inv m dl B s) (h6 : m ≤ 6) (hdl : dl ≤ 6) (ht : q_tm tm) (hB0 : 0 ≤ B) (hB1 : B ≤ 800) (hd0 : 0 ≤ d) (hd1 : d < dl) (hs0 : 0 ≤ sum) (hs1 : sum ≤ 9999) : q_inv m dl (B + 5) (q_sb tm d sum last s) := by
  have hM := q_slM_in h h6 hdl ht hB0 hd0 hd1 hs0 hs1
  have h3 := (h.sl2 h6 hdl ht hB0 hd0 hd1 hs0 hs1).sl3 h6 ht hM.1 (by omega)
  unfold q_sb
  split
  · exact h3.mono h6 (by omega)
  · exact (h3.sl4 h6 hdl (by omega) (by omega) hd0 hd1).mono h6 (by omega)
theorem q_inv.gt (h : q_inv m dl B s) (h6 : m ≤ 6) (hp : ∀ i : Nat, i < m → 0 ≤ pt i ∧ pt i ≤ 1000000000) : q_inv m dl (B + 1) (q_gt m pt s) :=
  ⟨h.1.gt hp, h.2.1.congr (by omega) (fun k _ _ => q_gt_ne (by omega)), h.2.2.1.congr (by omega) (fun k _ _ => q_gt_ne (by omega)), h.2.2.2.1.congr (by omega) (fun k _ _ => q_gt_ne (by omega)), fun k hk => by rw [q_gt_ne (by omega)]; exact h.2.2.2.2 k hk⟩
theorem q_inv.py (h : q_inv m dl B s) (h6 : m ≤ 6) (hp : ∀ i : Nat, i < m → 0 ≤ pt i ∧ pt i ≤ s (5 * i + 1)) : q_inv m dl (B + 1) (q_py m pt s) :=
  ⟨h.1.py hp, h.2.1.congr (by omega) (fun k _ _ => q_py_hi (by omega)), h.2.2.1.congr (by omega) (fun k _ _ => q_py_hi (by omega)), h.2.2.2.1.congr (by omega) (fun k _ _ => q_py_hi (by omega)), fun k hk => by rw [q_py_hi (by omega)]; exact h.2.2.2.2 k hk⟩
theorem q_wg_nn (h : q_iI m B s) (i : Nat) (hi : i < m) : 0 ≤ q_wg ex s d i ∧ q_wg ex s d i ≤ 9999 := by
  have := h i hi
  unfold q_wg q_wt
  split
  · omega
  · split <;> omega
theorem q_wp_nn (h : q_iI m B s) (i : Nat) (hi : i < m) : 0 ≤ q_wp ex s d i ∧ q_wp ex s d i ≤ s (5 * i + 1) := by
  have := h i hi
  unfold q_wp
  split <;> omega
theorem q_inv.qb {fee : Int} (h : q_inv m dl B s) (h6 : m ≤ 6) (hdl : dl ≤ 6) (ht : q_tm tm) (hB0 : 0 ≤ B) (hB1 : B ≤ 900) (hf0 : 0 ≤ fee) (hf1 : fee ≤ 59994) (hq : s 90 < 200) : q_inv m dl (B + 1) (q_qb tm fee s) := by
  obtain ⟨⟨t1, t2⟩, -⟩ := ht
  have e : ∀ k, k < 54 ∨ (86 ≤ k ∧ k ≠ 90) → q_qb tm fee s k = s k := fun k hk => by unfold q_qb q_pf; simp (disch := omega) only [Int.add_zero, Int.mul_zero, Int.reduceMul, Int.reduceAdd, Int.mul_one, Int.tdiv_eq_ediv_of_nonneg, Int.tmod_eq_emod_of_nonneg, ↓reduceIte, ↓zLet_eq, ↓zRd_ok, ↓zWr_ok, ↓zC_V, ↓zC_I, ↓zC_J, zUp_at, zUp_ne, q_up_at, q_up_ne, w32_of, w64_of, q_le_T, q_le_F, q_lt_T, q_lt_F, q_eq_T, q_eq_F, true_or, or_true, or_false, false_or, false_and, and_false, and_self, implies_true, true_and, and_true, ne_eq, not_true_eq_false, not_false_eq_true, false_implies, true_implies, if_neg (show ¬ (k = 58 ∧ tm 3 = 1) by omega), if_neg (show ¬ (54 ≤ k ∧ k < 86 ∧ (k - 54) % 4 = 1) by omega)]
  have h90 : q_qb tm fee s 90 = s 90 + 1 := by unfold q_qb; simp (disch := omega) only [Int.add_zero, Int.mul_zero, Int.reduceMul, Int.reduceAdd, Int.mul_one, Int.tdiv_eq_ediv_of_nonneg, Int.tmod_eq_emod_of_nonneg, ↓reduceIte, ↓zLet_eq, ↓zRd_ok, ↓zWr_ok, ↓zC_V, ↓zC_I, ↓zC_J, zUp_at, zUp_ne, q_up_at, q_up_ne, w32_of, w64_of, q_le_T, q_le_F, q_lt_T, q_lt_F, q_eq_T, q_eq_F, true_or, or_true, or_false, false_or, false_and, and_false, and_self, implies_true, true_and, and_true, ne_eq, not_true_eq_false, not_false_eq_true, false_implies, true_implies, if_neg (show ¬ ((90 : Int) = 58 ∧ tm 3 = 1) by omega)]
  refine ⟨h.1.congr h6 (by omega) (fun k _ _ => e k (by omega)), h.2.1.congr (by omega) (fun k _ _ => e k (by omega)), ⟨fun l hl => ?_, fun l h0 hl => ?_⟩, ?_, fun k hk => by rw [e k (by omega)]; exact h.2.2.2.2 k hk⟩
  · have h1 := h.2.2.1.1 l hl
    have hm := q_mb (show 0 ≤ s (54 + 4 * l) + s (54 + 4 * l + 1) by omega) (show _ ≤ 2000000000000 by omega) t1 t2
    have c0 : q_qb tm fee s (54 + 4 * l) = s (54 + 4 * l) ∨ (l ≤ 1 ∧ q_qb tm fee s (54 + 4 * l) = s (54 + 4 * l) + fee) := by
      unfold q_qb q_pf
      split
      · exact Or.inr ⟨by omega, rfl⟩
      · split
        · exact Or.inr ⟨by omega, rfl⟩
        · rw [if_neg (by omega), if_neg (by omega)]
          exact Or.inl rfl
    have c1 : q_qb tm fee s (54 + 4 * l + 1) = q_min 1000000000 (s (54 + 4 * l + 1) + (s (54 + 4 * l) + s (54 + 4 * l + 1)) * tm 0 / 10000) := by
      unfold q_qb q_pf
      rw [if_neg (by omega), if_neg (by omega), if_neg (by omega), if_pos (by omega), show 54 + 4 * (l : Int) + 1 - 1 = 54 + 4 * l by omega]
    have c2 : q_qb tm fee s (54 + 4 * l + 2) = s (54 + 4 * l + 2) := by
      unfold q_qb q_pf
      rw [if_neg (by omega), if_neg (by omega), if_neg (by omega), if_neg (by omega)]
    have c3 : q_qb tm fee s (54 + 4 * l + 3) = s (54 + 4 * l + 3) := by
      unfold q_qb q_pf
      rw [if_neg (by omega), if_neg (by omega), if_neg (by omega), if_neg (by omega)]
    have m1 := q_min_le 1000000000 (s (54 + 4 * l + 1) + (s (54 + 4 * l) + s (54 + 4 * l + 1)) * tm 0 / 10000)
    have m2 := q_min_nn (a := 1000000000) (b := s (54 + 4 * l + 1) + (s (54 + 4 * l) + s (54 + 4 * l + 1)) * tm 0 / 10000) (by decide) (by omega)
    rw [c1, c2, c3]
    rcases c0 with c0 | ⟨c9, c0⟩ <;> rw [c0] <;> omega
  · have h1 := h.2.2.1.2 l h0 hl
    unfold q_qb q_pf
    rw [if_neg (by omega), if_neg (by omega), if_neg (by omega), if_neg (by omega), if_neg (by omega), if_neg (by omega), if_neg (by omega), if_pos (by omega), show 54 + 4 * (l : Int) + 1 - 1 = 54 + 4 * l by omega, if_neg (by omega), if_neg (by omega), if_neg (by omega), if_neg (by omega), if_neg (by omega), if_neg (by omega), if_neg (by omega), if_neg (by omega), h1.1, h1.2.1, h1.2.2.1, h1.2.2.2]
    simp [q_min]
  · have h1 := h.2.2.2.1
    unfold q_iP at h1 ⊢
    rw [e 86 (by omega), e 87 (by omega), e 88 (by omega), e 89 (by omega), h90, e 91 (by omega)]
    omega
theorem q_inv.rs (h : q_inv m dl B s) (h6 : m ≤ 6) (hdl : dl ≤ 6) (hB0 : 0 ≤ B) (hd0 : 0 ≤ d) (hd1 : d < dl) (hs0 : 0 ≤ sum) (hs1 : sum ≤ 9999) : q_inv m dl (B + 1) (q_rs tm d sum s) := by
  have e : ∀ k, k < 30 ∨ 86 ≤ k → q_rs tm d sum s k = s k := fun k hk => by
    unfold q_rs
    rw [if_neg (by omega), if_neg (by omega), if_neg (by omega)]
  refine ⟨h.1.congr h6 (by omega) (fun k _ _ => e k (by omega)), fun d' hd' => ?_, ⟨fun l hl => ?_, fun l h0 hl => ?_⟩, h.2.2.2.1.congr (by omega) (fun k _ _ => e k (by omega)), fun k hk => by rw [e k (by omega)]; exact h.2.2.2.2 k hk⟩
  · have h1 := h.2.1 d' hd'
    have c0 : q_rs tm d sum s (30 + 4 * d') = s (30 + 4 * d') ∨ q_rs tm d sum s (30 + 4 * d') = s (30 + 4 * d') + sum := by
      unfold q_rs
      split
      · exact Or.inr rfl
      · rw [if_neg (by omega), if_neg (by omega)]
        exact Or.inl rfl
    have cn : ∀ k, 30 ≤ k → k < 54 → (k - 30) % 4 ≠ 0 → q_rs tm d sum s k = s k := fun k _ _ _ => by
      unfold q_rs
      rw [if_neg (by omega), if_neg (by omega), if_neg (by omega)]
    rw [cn (30 + 4 * d' + 1) (by omega) (by omega) (by omega), cn (30 + 4 * d' + 2) (by omega) (by omega) (by omega), cn (30 + 4 * d' + 3) (by omega) (by omega) (by omega)]
    rcases c0 with c0 | c0 <;> rw [c0] <;> omega
  · have h1 := h.2.2.1.1 l hl
    have c0 : q_rs tm d sum s (54 + 4 * l) = s (54 + 4 * l) ∨ (l ≠ 1 ∧ q_rs tm d sum s (54 + 4 * l) = s (54 + 4 * l) + sum) := by
      unfold q_rs
      rw [if_neg (by omega)]
      split
      · exact Or.inr ⟨by omega, rfl⟩
      · split
        · exact Or.inr ⟨by omega, rfl⟩
        · exact Or.inl rfl
    have cn : ∀ k, 54 ≤ k → k < 86 → (k - 54) % 4 ≠ 0 → q_rs tm d sum s k = s k := fun k _ _ _ => by
      unfold q_rs
      rw [if_neg (by omega), if_neg (by omega), if_neg (by omega)]
    rw [cn (54 + 4 * l + 1) (by omega) (by omega) (by omega), cn (54 + 4 * l + 2) (by omega) (by omega) (by omega), cn (54 + 4 * l + 3) (by omega) (by omega) (by omega)]
    rcases c0 with c0 | ⟨c9, c0⟩ <;> rw [c0] <;> omega
  · have h1 := h.2.2.1.2 l h0 hl
    have cn : ∀ k, 54 + 4 * (l : Int) ≤ k → k < 86 → q_rs tm d sum s k = s k := fun k _ _ => by
      unfold q_rs
      rw [if_neg (by omega), if_neg (by omega), if_neg (by omega)]
    rw [cn _ (by omega) (by omega), cn _ (by omega) (by omega), cn _ (by omega) (by omega), cn _ (by omega) (by omega)]
    exact h1
theorem q_cw_in (h : q_iP B s) (ht : q_tm tm) : 0 ≤ q_hl s ∧ q_hl s ≤ s 88 ∧ 0 ≤ q_ou tm s ∧ q_ou tm s ≤ s 87 ∧ q_hl s + q_ou tm s ≤ q_due s ∧ q_due s ≤ 100000 * B ∧ 0 ≤ q_due s ∨ s 57 < 0 := by
  by_cases h57 : 0 ≤ s 57
  · left
    unfold q_iP at h
    obtain ⟨-, -, -, -, ⟨c1, c2⟩, -⟩ := ht
    have d0 : 0 ≤ q_due s ∧ q_due s ≤ s 86 := by unfold q_due q_max; split <;> omega
    have l1 := q_min_le (s 88) (q_due s)
    have l2 := q_min_nn (a := s 88) (b := q_due s) (by omega) d0.1
    have hp : 0 ≤ s 87 * tm 4 := Int.mul_nonneg (by omega) c1
    have hp2 : s 87 * tm 4 ≤ s 87 * 100 := Int.mul_le_mul_of_nonneg_left (by omega) (by omega)
    have l3 := q_min_le (q_due s - q_hl s) (s 87 - s 87 * tm 4 / 100)
    have l4 := q_min_nn (a := q_due s - q_hl s) (b := s 87 - s 87 * tm 4 / 100) (by unfold q_hl; omega) (by omega)
    have e1 : q_min (s 88) (q_due s) = q_hl s := rfl
    have e2 : q_min (q_due s - q_hl s) (s 87 - s 87 * tm 4 / 100) = q_ou tm s := rfl
    rw [e1] at l1 l2
    rw [e2] at l3 l4
    omega
  · right
    omega
theorem q_inv.cw (h : q_inv m dl B s) (ht : q_tm tm) : 0 ≤ q_hl s ∧ q_hl s ≤ s 88 ∧ 0 ≤ q_ou tm s ∧ q_ou tm s ≤ s 87 ∧ q_hl s + q_ou tm s ≤ q_due s ∧ q_due s ≤ 100000 * B ∧ 0 ≤ q_due s := by
  rcases q_cw_in (s := s) h.2.2.2.1 ht with h1 | h1
  · exact h1
  · have h2 := h.2.2.1.1 0 (by decide)
    have e : (54 + 4 * ((0 : Nat) : Int) + 3) = 57 := rfl
    rw [e] at h2
    omega
theorem q_inv.en (h : q_inv m dl B s) (h6 : m ≤ 6) (ht : q_tm tm) (hB0 : 0 ≤ B) (hB1 : B ≤ 900) : q_inv m dl (B + 1) (q_en tm s) := by
  have e : ∀ k, k < 86 ∨ 92 ≤ k → q_en tm s k = s k := fun k hk => by unfold q_en; simp (disch := omega) only [Int.add_zero, Int.mul_zero, Int.reduceMul, Int.reduceAdd, Int.mul_one, Int.tdiv_eq_ediv_of_nonneg, Int.tmod_eq_emod_of_nonneg, ↓reduceIte, ↓zLet_eq, ↓zRd_ok, ↓zWr_ok, ↓zC_V, ↓zC_I, ↓zC_J, zUp_at, zUp_ne, q_up_at, q_up_ne, w32_of, w64_of, q_le_T, q_le_F, q_lt_T, q_lt_F, q_eq_T, q_eq_F, true_or, or_true, or_false, false_or, false_and, and_false]
  have hc := h.cw ht
  refine ⟨h.1.congr h6 (by omega) (fun k _ _ => e k (by omega)), h.2.1.congr (by omega) (fun k _ _ => e k (by omega)), h.2.2.1.congr (by omega) (fun k _ _ => e k (by omega)), ?_, fun k hk => by rw [e k (by omega)]; exact h.2.2.2.2 k hk⟩
  have h1 := h.2.2.2.1
  unfold q_iP at h1 ⊢
  unfold q_en
  simp (disch := omega) only [Int.add_zero, Int.mul_zero, Int.reduceMul, Int.reduceAdd, Int.mul_one, Int.tdiv_eq_ediv_of_nonneg, Int.tmod_eq_emod_of_nonneg, ↓reduceIte, ↓zLet_eq, ↓zRd_ok, ↓zWr_ok, ↓zC_V, ↓zC_I, ↓zC_J, zUp_at, zUp_ne, q_up_at, q_up_ne, w32_of, w64_of, q_le_T, q_le_F, q_lt_T, q_lt_F, q_eq_T, q_eq_F, true_or, or_true, or_false, false_or, false_and, and_false, and_self, implies_true, true_and, and_true, ne_eq, not_true_eq_false, not_false_eq_true, false_implies, true_implies]
theorem q_inv.mk (h : q_inv m dl B s) (h6 : m ≤ 6) (hd0 : 0 ≤ d) (hd1 : d < 6) (hs0 : 0 ≤ sum) (hs1 : sum ≤ 9999) : q_inv m dl B (q_up s (30 + 4 * d + 2) sum) := by
  refine ⟨h.1.congr h6 (by omega) (fun k _ _ => q_up_ne (by omega)), fun d' hd' => ?_, h.2.2.1.congr (by omega) (fun k _ _ => q_up_ne (by omega)), h.2.2.2.1.congr (by omega) (fun k _ _ => q_up_ne (by omega)), fun k hk => by rw [q_up_ne (by omega)]; exact h.2.2.2.2 k hk⟩
  have h1 := h.2.1 d' hd'
  by_cases e : (d' : Int) = d
  · subst e
    simp (disch := omega) only [Int.add_zero, Int.mul_zero, Int.reduceMul, Int.reduceAdd, Int.mul_one, Int.tdiv_eq_ediv_of_nonneg, Int.tmod_eq_emod_of_nonneg, ↓reduceIte, ↓zLet_eq, ↓zRd_ok, ↓zWr_ok, ↓zC_V, ↓zC_I, ↓zC_J, zUp_at, zUp_ne, q_up_at, q_up_ne, w32_of, w64_of, q_le_T, q_le_F, q_lt_T, q_lt_F, q_eq_T, q_eq_F, true_or, or_true, or_false, false_or, false_and, and_false, and_self, implies_true, true_and, and_true, ne_eq, not_true_eq_false, not_false_eq_true, false_implies, true_implies]
  · simp (disch := omega) only [Int.add_zero, Int.mul_zero, Int.reduceMul, Int.reduceAdd, Int.mul_one, Int.tdiv_eq_ediv_of_nonneg, Int.tmod_eq_emod_of_nonneg, ↓reduceIte, ↓zLet_eq, ↓zRd_ok, ↓zWr_ok, ↓zC_V, ↓zC_I, ↓zC_J, zUp_at, zUp_ne, q_up_at, q_up_ne, w32_of, w64_of, q_le_T, q_le_F, q_lt_T, q_lt_F, q_eq_T, q_eq_F, true_or, or_true, or_false, false_or, false_and, and_false, and_self, implies_true, true_and, and_true, ne_eq, not_true_eq_false, not_false_eq_true, false_implies, true_implies]
theorem q_inv.fa {i : Int} (h : q_inv m dl B s) (h6 : m ≤ 6) (hi0 : 0 ≤ i) (hi1 : i < m) : q_inv m dl B (q_fa i s) := by
  have e : ∀ k, k < 0 ∨ 30 ≤ k → q_fa i s k = s k := fun k hk => by unfold q_fa; simp (disch := omega) only [Int.add_zero, Int.mul_zero, Int.reduceMul, Int.reduceAdd, Int.mul_one, Int.tdiv_eq_ediv_of_nonneg, Int.tmod_eq_emod_of_nonneg, ↓reduceIte, ↓zLet_eq, ↓zRd_ok, ↓zWr_ok, ↓zC_V, ↓zC_I, ↓zC_J, zUp_at, zUp_ne, q_up_at, q_up_ne, w32_of, w64_of, q_le_T, q_le_F, q_lt_T, q_lt_F, q_eq_T, q_eq_F, true_or, or_true, or_false, false_or, false_and, and_false]
  refine ⟨fun j hj => ?_, h.2.1.congr (by omega) (fun k _ _ => e k (by omega)), h.2.2.1.congr (by omega) (fun k _ _ => e k (by omega)), h.2.2.2.1.congr (by omega) (fun k _ _ => e k (by omega)), fun k hk => by rw [e k (by omega)]; exact h.2.2.2.2 k hk⟩
  have h1 := h.1 j hj
  unfold q_fa
  by_cases e : (j : Int) = i
  · subst e
    simp (disch := omega) only [Int.add_zero, Int.mul_zero, Int.reduceMul, Int.reduceAdd, Int.mul_one, Int.tdiv_eq_ediv_of_nonneg, Int.tmod_eq_emod_of_nonneg, ↓reduceIte, ↓zLet_eq, ↓zRd_ok, ↓zWr_ok, ↓zC_V, ↓zC_I, ↓zC_J, zUp_at, zUp_ne, q_up_at, q_up_ne, w32_of, w64_of, q_le_T, q_le_F, q_lt_T, q_lt_F, q_eq_T, q_eq_F, true_or, or_true, or_false, false_or, false_and, and_false, and_self, implies_true, true_and, and_true, ne_eq, not_true_eq_false, not_false_eq_true, false_implies, true_implies]
  · simp (disch := omega) only [Int.add_zero, Int.mul_zero, Int.reduceMul, Int.reduceAdd, Int.mul_one, Int.tdiv_eq_ediv_of_nonneg, Int.tmod_eq_emod_of_nonneg, ↓reduceIte, ↓zLet_eq, ↓zRd_ok, ↓zWr_ok, ↓zC_V, ↓zC_I, ↓zC_J, zUp_at, zUp_ne, q_up_at, q_up_ne, w32_of, w64_of, q_le_T, q_le_F, q_lt_T, q_lt_F, q_eq_T, q_eq_F, true_or, or_true, or_false, false_or, false_and, and_false, and_self, implies_true, true_and, and_true, ne_eq, not_true_eq_false, not_false_eq_true, false_implies, true_implies]
theorem q_ov_in {u c : Int} (hu0 : 0 ≤ u) (hu1 : u ≤ c) (hs0 : 0 ≤ sum) (hs1 : sum < c) : 0 ≤ u * sum / c ∧ u * sum / c ≤ sum ∧ u * sum / c ≤ u ∧ u - u * sum / c ≤ c - sum := by
  have hc : 0 < c := by omega
  refine ⟨Int.ediv_nonneg (Int.mul_nonneg hu0 hs0) (by omega), ?_, ?_, ?_⟩
  · refine Int.ediv_le_of_le_mul hc ?_
    rw [Int.mul_comm sum]
    exact Int.mul_le_mul_of_nonneg_right hu1 hs0
  · refine Int.ediv_le_of_le_mul hc ?_
    exact Int.mul_le_mul_of_nonneg_left (by omega) hu0
  · have h : u - c + sum ≤ u * sum / c := by
      refine Int.le_ediv_of_mul_le hc ?_
      have h2 : (c - u) * sum ≤ (c - u) * c := Int.mul_le_mul_of_nonneg_left (by omega) (by omega)
      rw [Int.sub_mul, Int.sub_mul] at h2
      rw [Int.add_mul, Int.sub_mul, Int.mul_comm sum c]
      omega
    omega
theorem q_inv.mv {i o : Int} (h : q_inv m dl B s) (h6 : m ≤ 6) (hi0 : 0 ≤ i) (hi1 : i < m) (ho0 : 0 ≤ o) (ho1 : o < m) (hio : i ≠ o) (hs0 : 0 ≤ sum) (hc : sum < s (5 * i)) (ho : s (5 * o) + sum ≤ 9999) : q_inv m dl B (q_mv i o sum s) := by
  have e : ∀ k, k < 0 ∨ 30 ≤ k → q_mv i o sum s k = s k := fun k hk => by unfold q_mv; simp (disch := omega) only [Int.add_zero, Int.mul_zero, Int.reduceMul, Int.reduceAdd, Int.mul_one, Int.tdiv_eq_ediv_of_nonneg, Int.tmod_eq_emod_of_nonneg, ↓reduceIte, ↓zLet_eq, ↓zRd_ok, ↓zWr_ok, ↓zC_V, ↓zC_I, ↓zC_J, zUp_at, zUp_ne, q_up_at, q_up_ne, w32_of, w64_of, q_le_T, q_le_F, q_lt_T, q_lt_F, q_eq_T, q_eq_F, true_or, or_true, or_false, false_or, false_and, and_false]
  refine ⟨fun j hj => ?_, h.2.1.congr (by omega) (fun k _ _ => e k (by omega)), h.2.2.1.congr (by omega) (fun k _ _ => e k (by omega)), h.2.2.2.1.congr (by omega) (fun k _ _ => e k (by omega)), fun k hk => by rw [e k (by omega)]; exact h.2.2.2.2 k hk⟩
  have h1 := h.1 j hj
  have h2 := h.1 i.toNat (by omega)
  rw [Int.toNat_of_nonneg hi0] at h2
  have hv := q_ov_in (sum := sum) h2.2.1.1 h2.2.1.2 hs0 hc
  have ev : q_ov i sum s = s (5 * i + 1) * sum / s (5 * i) := rfl
  rw [← ev] at hv
  unfold q_mv
  by_cases e : (j : Int) = i
  · subst e
    simp (disch := omega) only [Int.add_zero, Int.mul_zero, Int.reduceMul, Int.reduceAdd, Int.mul_one, Int.tdiv_eq_ediv_of_nonneg, Int.tmod_eq_emod_of_nonneg, ↓reduceIte, ↓zLet_eq, ↓zRd_ok, ↓zWr_ok, ↓zC_V, ↓zC_I, ↓zC_J, zUp_at, zUp_ne, q_up_at, q_up_ne, w32_of, w64_of, q_le_T, q_le_F, q_lt_T, q_lt_F, q_eq_T, q_eq_F, true_or, or_true, or_false, false_or, false_and, and_false, and_self, implies_true, true_and, and_true, ne_eq, not_true_eq_false, not_false_eq_true, false_implies, true_implies]
  · by_cases e2 : (j : Int) = o
    · subst e2
      simp (disch := omega) only [Int.add_zero, Int.mul_zero, Int.reduceMul, Int.reduceAdd, Int.mul_one, Int.tdiv_eq_ediv_of_nonneg, Int.tmod_eq_emod_of_nonneg, ↓reduceIte, ↓zLet_eq, ↓zRd_ok, ↓zWr_ok, ↓zC_V, ↓zC_I, ↓zC_J, zUp_at, zUp_ne, q_up_at, q_up_ne, w32_of, w64_of, q_le_T, q_le_F, q_lt_T, q_lt_F, q_eq_T, q_eq_F, true_or, or_true, or_false, false_or, false_and, and_false, and_self, implies_true, true_and, and_true, ne_eq, not_true_eq_false, not_false_eq_true, false_implies, true_implies]
    · simp (disch := omega) only [Int.add_zero, Int.mul_zero, Int.reduceMul, Int.reduceAdd, Int.mul_one, Int.tdiv_eq_ediv_of_nonneg, Int.tmod_eq_emod_of_nonneg, ↓reduceIte, ↓zLet_eq, ↓zRd_ok, ↓zWr_ok, ↓zC_V, ↓zC_I, ↓zC_J, zUp_at, zUp_ne, q_up_at, q_up_ne, w32_of, w64_of, q_le_T, q_le_F, q_lt_T, q_lt_F, q_eq_T, q_eq_F, true_or, or_true, or_false, false_or, false_and, and_false, and_self, implies_true, true_and, and_true, ne_eq, not_true_eq_false, not_false_eq_true, false_implies, true_implies]
theorem q_fee_in (h : q_iI m B s) (h6 : m ≤ 6) (ht : q_tm tm) : 0 ≤ q_fee m tm s ∧ q_fee m tm s ≤ 59994 ∧ q_fee m tm s ≤ q_sm (fun i => s (5 * i + 1)) m := by
  have h1 : 0 ≤ q_sm (fun i => s (5 * i + 1)) m := q_sm_nonneg (fun i hi => (h i hi).2.1.1)
  have h2 : 0 ≤ q_sm (fun i => s (5 * i)) m := q_sm_nonneg (fun i hi => by have := (h i hi).1; omega)
  have h3 : q_sm (fun i => s (5 * i + 1)) m ≤ 6 * 9999 := q_sm_bd6 h6 (by decide) (fun i hi => by have := h i hi; omega)
  have h4 : 0 ≤ tm 6 * q_sm (fun i => s (5 * i)) m := Int.mul_nonneg ht.2.2.2.2.2.2.1 h2
  have h5 := q_min_le (q_sm (fun i => s (5 * i + 1)) m) (tm 6 * q_sm (fun i => s (5 * i)) m / 10000)
  have h6 := q_min_nn (a := q_sm (fun i => s (5 * i + 1)) m) (b := tm 6 * q_sm (fun i => s (5 * i)) m / 10000) h1 (by omega)
  unfold q_fee
  omega
end IV
