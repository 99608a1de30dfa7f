/-! ===== acts as they are told; the reference does them ===== -/
def q_ac (m dl : Nat) (kd who sum ot : Int) : Prop := (0 ≤ kd ∧ kd ≤ 7) ∧ (kd ≤ 3 → 0 ≤ who ∧ who < dl) ∧ ((kd = 5 ∨ kd = 7) → 0 ≤ who ∧ who < m) ∧ (kd = 7 → 0 ≤ ot ∧ ot < m ∧ ot ≠ who) ∧ (0 ≤ sum ∧ sum ≤ 9999) ∧ (kd = 4 → sum ≤ 60) ∧ ((kd = 4 ∨ kd = 6) → who = -1) ∧ (kd ≠ 7 → ot = -1)
section DO
variable {m dl : Nat} {B : Int} {tm ex : Int → Int} {kd who sum ot : Int}
theorem q_inv.getS {d : Int} {σ : QS} (h : q_inv m dl B σ.1) (h6 : m ≤ 6) (hs0 : 0 ≤ sum) (hs1 : sum ≤ 1000000000) : q_inv m dl (B + 1) (q_get m ex d sum σ).1 :=
  h.gt h6 (fun i hi => by
    have := q_shr_bd (w := q_wg ex σ.1 d) hs0 (fun i hi => (q_wg_nn h.1 i hi).1) i hi
    omega)
theorem q_inv.payS {d : Int} {σ : QS} (h : q_inv m dl B σ.1) (h6 : m ≤ 6) (hs0 : 0 ≤ sum) (hle : sum ≤ q_sm (q_wp ex σ.1 d) m) : q_inv m dl (B + 1) (q_pay m ex d sum σ).1 :=
  h.py h6 (fun i hi => by
    have := q_shr_bdw hs0 (fun i hi => (q_wp_nn (ex := ex) (d := d) h.1 i hi).1) hle i hi
    have h2 := q_wp_nn (ex := ex) (d := d) h.1 i hi
    omega)
theorem q_qb_90 {fee : Int} {s : Int → Int} : q_qb tm fee s 90 = s 90 + 1 := by
  unfold q_qb
  rw [if_neg (by decide), if_neg (fun h => absurd h.1 (by decide)), if_pos rfl]
theorem q_inv.qt {σ : QS} (h : q_inv m dl B σ.1) (h6 : m ≤ 6) (hdl : dl ≤ 6) (ht : q_tm tm) (hB0 : 0 ≤ B) (hB1 : B ≤ 800) (hq : σ.1 90 < 200) : q_inv m dl (B + 2) (q_qt m tm ex σ).1 ∧ (q_qt m tm ex σ).1 90 = σ.1 90 + 1 := by
  have hf := q_fee_in (tm := tm) h.1 h6 ht
  have h1 : q_inv m dl (B + 1) (q_pay m ex (-1) (q_fee m tm σ.1) σ).1 := h.payS h6 hf.1 (by rw [q_wp_all]; exact hf.2.2)
  have e : (q_pay m ex (-1) (q_fee m tm σ.1) σ).1 90 = σ.1 90 := q_py_hi (by omega)
  have h2 := h1.qb h6 hdl ht (by omega) (by omega) hf.1 hf.2.1 (by rw [e]; exact hq)
  exact ⟨h2.mono h6 (by omega), by show q_qb tm (q_fee m tm σ.1) (q_pay m ex (-1) (q_fee m tm σ.1) σ).1 90 = _; rw [q_qb_90, e]⟩
theorem q_inv.wn {σ : QS} (h : q_inv m dl B σ.1) (h6 : m ≤ 6) (hdl : dl ≤ 6) (ht : q_tm tm) (hB0 : 0 ≤ B) (hB1 : B + 2 * (200 - σ.1 90) ≤ 760) : ∀ n : Nat, σ.1 90 + n ≤ 200 → q_inv m dl (B + 2 * n) (q_wn m tm ex n σ).1 ∧ (q_wn m tm ex n σ).1 90 = σ.1 90 + n
  | 0, _ => ⟨by rw [q_wn]; exact h.mono h6 (by omega), by rw [q_wn]; omega⟩
  | n + 1, hn => by
    obtain ⟨h1, h2⟩ := q_inv.wn h h6 hdl ht hB0 hB1 n (by omega)
    obtain ⟨h3, h4⟩ := h1.qt (tm := tm) (ex := ex) h6 hdl ht (by omega) (by omega) (by omega)
    rw [q_wn]
    exact ⟨h3.mono h6 (by omega), by rw [h4, h2]; omega⟩
theorem q_can_le {s : Int → Int} (h : q_can m dl ex 0 who sum ot s = 1) : sum ≤ q_sm (q_wp ex s who) m := by
  unfold q_can at h
  rcases Int.lt_or_le (q_sm (q_wp ex s who) m) sum with h1 | h1
  · exfalso
    by_cases a : m = 0
    · simp [a] at h
    · by_cases b : s 91 = 1
      · simp [a, b] at h
      · by_cases c : s (30 + 4 * who + 3) = 0
        · simp [a, b, c, h1] at h
        · simp [a, b, c] at h
  · exact h1
theorem q_can_wait {s : Int → Int} (h : q_can m dl ex 4 who sum ot s = 1) : s 90 + sum ≤ 200 := by
  unfold q_can at h
  rcases Int.lt_or_le 200 (s 90 + sum) with h1 | h1
  · exfalso
    by_cases a : m = 0
    · simp [a] at h
    · by_cases b : s 91 = 1
      · simp [a, b] at h
      · simp [a, b, h1] at h
  · exact h1
theorem q_can_move {s : Int → Int} (h : q_can m dl ex 7 who sum ot s = 1) : sum < s (5 * who) ∧ s (5 * ot) + sum ≤ 9999 := by
  unfold q_can q_cmv at h
  by_cases a : m = 0
  · simp [a] at h
  · by_cases b : s 91 = 1
    · simp [a, b] at h
    · by_cases c : s (5 * who) ≤ sum
      · simp [a, b, c] at h
      · by_cases d : 9999 < s (5 * ot) + sum
        · simp [a, b, c, d] at h
        · omega
/-- bounds hold on behind an act that can be -/
theorem q_inv.act {σ : QS} (h : q_inv m dl B σ.1) (h6 : m ≤ 6) (hdl : dl ≤ 6) (ht : q_tm tm) (hB0 : 0 ≤ B) (hB1 : B + 2 * (200 - σ.1 90) ≤ 760) (ha : q_ac m dl kd who sum ot) (hc : q_can m dl ex kd who sum ot σ.1 = 1) :
    q_inv m dl (B + 6 + 2 * ((q_do m tm ex kd who sum ot σ).1 90 - σ.1 90)) (q_do m tm ex kd who sum ot σ).1 ∧ σ.1 90 ≤ (q_do m tm ex kd who sum ot σ).1 90 := by
  obtain ⟨a0, a1, a2, a3, a4, a5, a6, a7⟩ := ha
  have hq := h.2.2.2.1.2.2.2.2.1
  unfold q_do
  by_cases k0 : kd = 0
  · subst k0
    rw [if_pos rfl]
    have h1 := h.payS h6 a4.1 (q_can_le hc)
    have h2 := h1.rs (tm := tm) h6 hdl (by omega) (a1 (by omega)).1 (a1 (by omega)).2 a4.1 a4.2
    have e : q_rs tm who sum (q_pay m ex who sum σ).1 90 = σ.1 90 := by
      unfold q_rs
      rw [if_neg (by omega), if_neg (by omega), if_neg (by omega)]
      exact q_py_hi (by omega)
    simp only []
    rw [e]
    exact ⟨h2.mono h6 (by omega), Int.le_refl _⟩
  rw [if_neg k0]
  have sell : ∀ last, 0 ≤ who → who < dl → q_inv m dl (B + 6 + 2 * ((q_sell m tm ex who sum last σ).1 90 - σ.1 90)) (q_sell m tm ex who sum last σ).1 ∧ σ.1 90 ≤ (q_sell m tm ex who sum last σ).1 90 := fun last w0 w1 => by
    have hM := q_slM_in h h6 hdl ht hB0 w0 w1 a4.1 a4.2
    have h1 : q_inv m dl (B + 5) (q_sb tm who sum last σ.1, σ.2).1 := h.sb h6 hdl ht hB0 (by omega) w0 w1 a4.1 a4.2
    have h2 := h1.getS (ex := ex) (d := who) (sum := sum - q_slM tm who sum σ.1) h6 (by omega) (by omega)
    have e : (q_sell m tm ex who sum last σ).1 90 = σ.1 90 := by
      show q_gt m _ (q_sb tm who sum last σ.1) 90 = _
      rw [q_gt_ne (by omega)]
      exact q_sb_at w0 (by omega) (by omega)
    rw [e]
    exact ⟨h2.mono h6 (by omega), Int.le_refl _⟩
  by_cases k1 : kd = 1
  · rw [if_pos k1]
    exact sell 0 (a1 (by omega)).1 (a1 (by omega)).2
  rw [if_neg k1]
  by_cases k2 : kd = 2
  · rw [if_pos k2]
    exact sell 1 (a1 (by omega)).1 (a1 (by omega)).2
  rw [if_neg k2]
  by_cases k3 : kd = 3
  · rw [if_pos k3]
    simp only []
    have w := a1 (by omega)
    rw [q_up_ne (by omega)]
    exact ⟨(h.mk h6 w.1 (by omega) a4.1 a4.2).mono h6 (by omega), Int.le_refl _⟩
  rw [if_neg k3]
  by_cases k4 : kd = 4
  · rw [if_pos k4]
    subst k4
    have hw := q_can_wait hc
    obtain ⟨h1, h2⟩ := h.wn (tm := tm) (ex := ex) h6 hdl ht hB0 hB1 sum.toNat (by omega)
    rw [h2]
    exact ⟨h1.mono h6 (by omega), by omega⟩
  rw [if_neg k4]
  by_cases k5 : kd = 5
  · rw [if_pos k5]
    simp only []
    have w := a2 (by omega)
    have e : q_fa who σ.1 90 = σ.1 90 := by unfold q_fa; simp (disch := omega) only [Int.add_zero, Int.mul_zero, Int.reduceMul, Int.reduceAdd, Int.mul_one, Int.tdiv_eq_ediv_of_nonneg, Int.tmod_eq_emod_of_nonneg, ↓reduceIte, ↓zLet_eq, ↓zRd_ok, ↓zWr_ok, ↓zC_V, ↓zC_I, ↓zC_J, zUp_at, zUp_ne, q_up_at, q_up_ne, w32_of, w64_of, q_le_T, q_le_F, q_lt_T, q_lt_F, q_eq_T, q_eq_F, true_or, or_true, or_false, false_or, false_and, and_false]
    rw [e]
    exact ⟨(h.fa h6 w.1 w.2).mono h6 (by omega), Int.le_refl _⟩
  rw [if_neg k5]
  by_cases k7 : kd = 7
  · rw [if_pos k7]
    subst k7
    simp only []
    have w := a2 (by omega)
    have o := a3 rfl
    have hv := q_can_move hc
    have e : q_mv who ot sum σ.1 90 = σ.1 90 := by unfold q_mv; simp (disch := omega) only [Int.add_zero, Int.mul_zero, Int.reduceMul, Int.reduceAdd, Int.mul_one, Int.tdiv_eq_ediv_of_nonneg, Int.tmod_eq_emod_of_nonneg, ↓reduceIte, ↓zLet_eq, ↓zRd_ok, ↓zWr_ok, ↓zC_V, ↓zC_I, ↓zC_J, zUp_at, zUp_ne, q_up_at, q_up_ne, w32_of, w64_of, q_le_T, q_le_F, q_lt_T, q_lt_F, q_eq_T, q_eq_F, true_or, or_true, or_false, false_or, false_and, and_false]
    rw [e]
    exact ⟨(h.mv h6 w.1 w.2 o.1 o.2.1 (Ne.symm o.2.2) a4.1 hv.1 hv.2).mono h6 (by omega), Int.le_refl _⟩
  rw [if_neg k7]
  have hcw := h.cw ht
  have h1 : q_inv m dl (B + 1) (q_en tm σ.1, σ.2).1 := h.en h6 ht hB0 (by omega)
  have h2 := h1.getS (ex := ex) (d := -1) (sum := q_hl σ.1 + q_ou tm σ.1) h6 (by omega) (by omega)
  have e : (q_end m tm ex σ).1 90 = σ.1 90 := by
    show q_gt m _ (q_en tm σ.1) 90 = _
    rw [q_gt_ne (by omega)]
    exact q_en_at (by omega)
  rw [e]
  exact ⟨h2.mono h6 (by omega), Int.le_refl _⟩
end DO
theorem m_canBe {μ : ZMem} {m dl : Nat} {B kd who sum ot : Int} (hm : μ 0 5 = m) (h6 : m ≤ 6) (hdd : μ 0 6 = dl) (hdl : dl ≤ 6) (hi : q_inv m dl B (μ 5)) (ha : q_ac m dl kd who sum ot) : F_Model_canBe kd who sum ot μ = some (.inr (some (zI (q_can m dl (μ 4) kd who sum ot (μ 5)))), μ) := by
  obtain ⟨a0, a1, a2, a3, a4, a5, a6, a7⟩ := ha
  have hp := hi.2.2.2.1
  unfold q_iP at hp
  unfold F_Model_canBe q_can
  by_cases m0 : m = 0
  · simp (disch := omega) only [Int.add_zero, Int.mul_zero, Int.reduceMul, Int.reduceAdd, Int.mul_one, Int.tdiv_eq_ediv_of_nonneg, Int.tmod_eq_emod_of_nonneg, ↓reduceIte, ↓zLet_eq, ↓zRd_ok, ↓zWr_ok, ↓zC_V, ↓zC_I, ↓zC_J, zUp_at, zUp_ne, q_up_at, q_up_ne, w32_of, w64_of, q_le_T, q_le_F, q_lt_T, q_lt_F, q_eq_T, q_eq_F, true_or, or_true, or_false, false_or, false_and, and_false, if_pos m0]
  rw [if_neg m0]
  by_cases h91 : μ 5 91 = 1
  · simp (disch := omega) only [Int.add_zero, Int.mul_zero, Int.reduceMul, Int.reduceAdd, Int.mul_one, Int.tdiv_eq_ediv_of_nonneg, Int.tmod_eq_emod_of_nonneg, ↓reduceIte, ↓zLet_eq, ↓zRd_ok, ↓zWr_ok, ↓zC_V, ↓zC_I, ↓zC_J, zUp_at, zUp_ne, q_up_at, q_up_ne, w32_of, w64_of, q_le_T, q_le_F, q_lt_T, q_lt_F, q_eq_T, q_eq_F, true_or, or_true, or_false, false_or, false_and, and_false]
  have hcl : kd ≤ 3 → 0 ≤ μ 5 (30 + 4 * who + 3) ∧ μ 5 (30 + 4 * who + 3) ≤ 1 := fun h => by
    have w := a1 h
    have := hi.2.1 who.toNat (by omega)
    rw [Int.toNat_of_nonneg w.1] at this
    omega
  by_cases k0 : kd = 0
  · subst k0
    have w := a1 (by omega)
    have hc := hcl (by omega)
    have hb : 0 ≤ q_sm (q_wp (μ 4) (μ 5) who) m := q_sm_nonneg (fun i h => (q_wp_nn hi.1 i h).1)
    have hb2 : q_sm (q_wp (μ 4) (μ 5) who) m ≤ 6 * 9999 := q_sm_bd6 h6 (by decide) (fun i h => by have h1 := (q_wp_nn (ex := μ 4) (d := who) hi.1 i h).2; have h2 := hi.1 i h; omega)
    by_cases h1 : μ 5 (30 + 4 * who + 3) = 0
    · by_cases h2 : q_sm (q_wp (μ 4) (μ 5) who) m < sum
      · simp (disch := omega) only [Int.add_zero, Int.mul_zero, Int.reduceMul, Int.reduceAdd, Int.mul_one, Int.tdiv_eq_ediv_of_nonneg, Int.tmod_eq_emod_of_nonneg, ↓reduceIte, ↓zLet_eq, ↓zRd_ok, ↓zWr_ok, ↓zC_V, ↓zC_I, ↓zC_J, zUp_at, zUp_ne, q_up_at, q_up_ne, w32_of, w64_of, q_le_T, q_le_F, q_lt_T, q_lt_F, q_eq_T, q_eq_F, true_or, or_true, or_false, false_or, false_and, and_false, m_dealAt, m_uncalled hm h6]
      · simp (disch := omega) only [Int.add_zero, Int.mul_zero, Int.reduceMul, Int.reduceAdd, Int.mul_one, Int.tdiv_eq_ediv_of_nonneg, Int.tmod_eq_emod_of_nonneg, ↓reduceIte, ↓zLet_eq, ↓zRd_ok, ↓zWr_ok, ↓zC_V, ↓zC_I, ↓zC_J, zUp_at, zUp_ne, q_up_at, q_up_ne, w32_of, w64_of, q_le_T, q_le_F, q_lt_T, q_lt_F, q_eq_T, q_eq_F, true_or, or_true, or_false, false_or, false_and, and_false, m_dealAt, m_uncalled hm h6]
    · simp (disch := omega) only [Int.add_zero, Int.mul_zero, Int.reduceMul, Int.reduceAdd, Int.mul_one, Int.tdiv_eq_ediv_of_nonneg, Int.tmod_eq_emod_of_nonneg, ↓reduceIte, ↓zLet_eq, ↓zRd_ok, ↓zWr_ok, ↓zC_V, ↓zC_I, ↓zC_J, zUp_at, zUp_ne, q_up_at, q_up_ne, w32_of, w64_of, q_le_T, q_le_F, q_lt_T, q_lt_F, q_eq_T, q_eq_F, true_or, or_true, or_false, false_or, false_and, and_false, m_dealAt]
  by_cases k1 : kd = 1
  · subst k1
    have w := a1 (by omega)
    have hc := hcl (by omega)
    by_cases h1 : μ 5 (30 + 4 * who + 3) = 0
    · simp (disch := omega) only [Int.add_zero, Int.mul_zero, Int.reduceMul, Int.reduceAdd, Int.mul_one, Int.tdiv_eq_ediv_of_nonneg, Int.tmod_eq_emod_of_nonneg, ↓reduceIte, ↓zLet_eq, ↓zRd_ok, ↓zWr_ok, ↓zC_V, ↓zC_I, ↓zC_J, zUp_at, zUp_ne, q_up_at, q_up_ne, w32_of, w64_of, q_le_T, q_le_F, q_lt_T, q_lt_F, q_eq_T, q_eq_F, true_or, or_true, or_false, false_or, false_and, and_false, m_dealAt]
    · simp (disch := omega) only [Int.add_zero, Int.mul_zero, Int.reduceMul, Int.reduceAdd, Int.mul_one, Int.tdiv_eq_ediv_of_nonneg, Int.tmod_eq_emod_of_nonneg, ↓reduceIte, ↓zLet_eq, ↓zRd_ok, ↓zWr_ok, ↓zC_V, ↓zC_I, ↓zC_J, zUp_at, zUp_ne, q_up_at, q_up_ne, w32_of, w64_of, q_le_T, q_le_F, q_lt_T, q_lt_F, q_eq_T, q_eq_F, true_or, or_true, or_false, false_or, false_and, and_false, m_dealAt]
  by_cases k2 : kd = 2
  · subst k2
    have w := a1 (by omega)
    have hc := hcl (by omega)
    by_cases h1 : μ 5 (30 + 4 * who + 3) = 0
    · simp (disch := omega) only [Int.add_zero, Int.mul_zero, Int.reduceMul, Int.reduceAdd, Int.mul_one, Int.tdiv_eq_ediv_of_nonneg, Int.tmod_eq_emod_of_nonneg, ↓reduceIte, ↓zLet_eq, ↓zRd_ok, ↓zWr_ok, ↓zC_V, ↓zC_I, ↓zC_J, zUp_at, zUp_ne, q_up_at, q_up_ne, w32_of, w64_of, q_le_T, q_le_F, q_lt_T, q_lt_F, q_eq_T, q_eq_F, true_or, or_true, or_false, false_or, false_and, and_false, m_dealAt]
    · simp (disch := omega) only [Int.add_zero, Int.mul_zero, Int.reduceMul, Int.reduceAdd, Int.mul_one, Int.tdiv_eq_ediv_of_nonneg, Int.tmod_eq_emod_of_nonneg, ↓reduceIte, ↓zLet_eq, ↓zRd_ok, ↓zWr_ok, ↓zC_V, ↓zC_I, ↓zC_J, zUp_at, zUp_ne, q_up_at, q_up_ne, w32_of, w64_of, q_le_T, q_le_F, q_lt_T, q_lt_F, q_eq_T, q_eq_F, true_or, or_true, or_false, false_or, false_and, and_false, m_dealAt]
  by_cases k3 : kd = 3
  · subst k3
    simp (disch := omega) only [Int.add_zero, Int.mul_zero, Int.reduceMul, Int.reduceAdd, Int.mul_one, Int.tdiv_eq_ediv_of_nonneg, Int.tmod_eq_emod_of_nonneg, ↓reduceIte, ↓zLet_eq, ↓zRd_ok, ↓zWr_ok, ↓zC_V, ↓zC_I, ↓zC_J, zUp_at, zUp_ne, q_up_at, q_up_ne, w32_of, w64_of, q_le_T, q_le_F, q_lt_T, q_lt_F, q_eq_T, q_eq_F, true_or, or_true, or_false, false_or, false_and, and_false]
  by_cases k4 : kd = 4
  · subst k4
    by_cases h1 : 200 < μ 5 90 + sum
    · simp (disch := omega) only [Int.add_zero, Int.mul_zero, Int.reduceMul, Int.reduceAdd, Int.mul_one, Int.tdiv_eq_ediv_of_nonneg, Int.tmod_eq_emod_of_nonneg, ↓reduceIte, ↓zLet_eq, ↓zRd_ok, ↓zWr_ok, ↓zC_V, ↓zC_I, ↓zC_J, zUp_at, zUp_ne, q_up_at, q_up_ne, w32_of, w64_of, q_le_T, q_le_F, q_lt_T, q_lt_F, q_eq_T, q_eq_F, true_or, or_true, or_false, false_or, false_and, and_false]
    · simp (disch := omega) only [Int.add_zero, Int.mul_zero, Int.reduceMul, Int.reduceAdd, Int.mul_one, Int.tdiv_eq_ediv_of_nonneg, Int.tmod_eq_emod_of_nonneg, ↓reduceIte, ↓zLet_eq, ↓zRd_ok, ↓zWr_ok, ↓zC_V, ↓zC_I, ↓zC_J, zUp_at, zUp_ne, q_up_at, q_up_ne, w32_of, w64_of, q_le_T, q_le_F, q_lt_T, q_lt_F, q_eq_T, q_eq_F, true_or, or_true, or_false, false_or, false_and, and_false]
  by_cases k5 : kd = 5
  · subst k5
    have w := a2 (by omega)
    have hf := hi.1 who.toNat (by omega)
    rw [Int.toNat_of_nonneg w.1] at hf
    by_cases h1 : μ 5 (5 * who + 4) = 0
    · simp (disch := omega) only [Int.add_zero, Int.mul_zero, Int.reduceMul, Int.reduceAdd, Int.mul_one, Int.tdiv_eq_ediv_of_nonneg, Int.tmod_eq_emod_of_nonneg, ↓reduceIte, ↓zLet_eq, ↓zRd_ok, ↓zWr_ok, ↓zC_V, ↓zC_I, ↓zC_J, zUp_at, zUp_ne, q_up_at, q_up_ne, w32_of, w64_of, q_le_T, q_le_F, q_lt_T, q_lt_F, q_eq_T, q_eq_F, true_or, or_true, or_false, false_or, false_and, and_false, m_placeOf]
    · simp (disch := omega) only [Int.add_zero, Int.mul_zero, Int.reduceMul, Int.reduceAdd, Int.mul_one, Int.tdiv_eq_ediv_of_nonneg, Int.tmod_eq_emod_of_nonneg, ↓reduceIte, ↓zLet_eq, ↓zRd_ok, ↓zWr_ok, ↓zC_V, ↓zC_I, ↓zC_J, zUp_at, zUp_ne, q_up_at, q_up_ne, w32_of, w64_of, q_le_T, q_le_F, q_lt_T, q_lt_F, q_eq_T, q_eq_F, true_or, or_true, or_false, false_or, false_and, and_false, m_placeOf]
  by_cases k6 : kd = 6
  · subst k6
    have hacl : q_acl (μ 5) dl = 0 ∨ q_acl (μ 5) dl = 1 := by
      by_cases hx : ∃ d : Nat, d < dl ∧ μ 5 (30 + 4 * d + 3) = 0
      · obtain ⟨d, h1, h2⟩ := hx
        exact Or.inl (q_acl_0 d h1 h2)
      · exact Or.inr (q_acl_1 (fun d h1 h2 => hx ⟨d, h1, h2⟩))
    simp (disch := omega) only [Int.add_zero, Int.mul_zero, Int.reduceMul, Int.reduceAdd, Int.mul_one, Int.tdiv_eq_ediv_of_nonneg, Int.tmod_eq_emod_of_nonneg, ↓reduceIte, ↓zLet_eq, ↓zRd_ok, ↓zWr_ok, ↓zC_V, ↓zC_I, ↓zC_J, zUp_at, zUp_ne, q_up_at, q_up_ne, w32_of, w64_of, q_le_T, q_le_F, q_lt_T, q_lt_F, q_eq_T, q_eq_F, true_or, or_true, or_false, false_or, false_and, and_false, m_areClosed hdd hdl (fun d hd => (hi.2.1 d hd).2.2.2), if_pos hacl]
  obtain rfl : kd = 7 := by omega
  have w := a2 (by omega)
  have o := a3 rfl
  have b1 := hi.1 who.toNat (by omega)
  rw [Int.toNat_of_nonneg w.1] at b1
  have b2 := hi.1 ot.toNat (by omega)
  rw [Int.toNat_of_nonneg o.1] at b2
  have hcm : q_cmv who ot sum (μ 5) = 0 ∨ q_cmv who ot sum (μ 5) = 1 := by
    unfold q_cmv
    split
    · exact Or.inl rfl
    · split
      · exact Or.inl rfl
      · split
        · exact Or.inr rfl
        · exact Or.inl rfl
  have em := m_canMove (μ := μ) (i := who) (o := ot) (sum := sum) w.1 (by omega) o.1 (by omega) a4.1 a4.2 (by omega) (by omega)
  simp (disch := omega) only [Int.add_zero, Int.mul_zero, Int.reduceMul, Int.reduceAdd, Int.mul_one, Int.tdiv_eq_ediv_of_nonneg, Int.tmod_eq_emod_of_nonneg, ↓reduceIte, ↓zLet_eq, ↓zRd_ok, ↓zWr_ok, ↓zC_V, ↓zC_I, ↓zC_J, zUp_at, zUp_ne, q_up_at, q_up_ne, w32_of, w64_of, q_le_T, q_le_F, q_lt_T, q_lt_F, q_eq_T, q_eq_F, true_or, or_true, or_false, false_or, false_and, and_false, em, if_pos hcm]
