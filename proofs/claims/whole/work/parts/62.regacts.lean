/-! ===== the class's register: one fails, one hands over ===== -/
theorem r_setFailed {m : Nat} {B i : Int} {ex s : Int → Int} {ν : ZMem} (h : r_rg m ex s ν) (hi : q_iI m B s) (h6 : m ≤ 6) (i0 : 0 ≤ i) (i1 : i < m) : ∃ ν', F_Register_setFailed i ν = some (.inr (some (zI (q_wt (q_fa i s) i))), ν') ∧ r_rg m ex (q_fa i s) ν' ∧ (∀ c, c ≠ 0 → c ≠ 2 → ν' c = ν c) := by
  have ha : ∀ k, k ≠ 5 * i + 4 → k ≠ 5 * i + 1 → q_fa i s k = s k := fun k k1 k2 => by unfold q_fa; rw [if_neg k1, if_neg k2]
  have h4 : q_fa i s (5 * i + 4) = 1 := by unfold q_fa; rw [if_pos rfl]
  have h1 : q_fa i s (5 * i + 1) = 0 := by unfold q_fa; rw [if_neg (by omega), if_pos rfl]
  obtain ⟨b1, b2⟩ := bit_or (i := i) h.2.2.2.1.1 h.2.2.2.1.2 i0 (by omega)
  have hr : r_rg m ex (q_fa i s) (zUp (zUp ν 0 9 (zor (ν 0 9) (zshl 1 i))) 2 i 0) := by
    refine ⟨fun j j0 j1 => ⟨?_, ?_, ?_⟩, fun d d0 d1 => ?_, ?_, ?_, fun j j0 j1 => ?_, ?_⟩
    · rw [zUp_ne (by decide), zUp_ne (by decide), ha _ (by omega) (by omega)]
      exact (h.1 j j0 j1).1
    · rw [zUp_at, zUp_ne (by decide)]
      by_cases e : j = i
      · rw [e, q_up_at, h1]
      · rw [q_up_ne e, ha _ (by omega) (by omega)]
        exact (h.1 j j0 j1).2.1
    · rw [zUp_ne (by decide), zUp_ne (by decide), ha _ (by omega) (by omega)]
      exact (h.1 j j0 j1).2.2
    · rw [zUp_ne (by decide), zUp_ne (by decide)]
      exact h.2.1 d d0 d1
    · rw [zUp_ne (by decide), zUp_at, q_up_ne (by decide)]
      exact h.2.2.1
    · rw [zUp_ne (by decide), zUp_at, q_up_at]
      exact b1
    · rw [zUp_ne (by decide), zUp_at, q_up_at, b2 j j0 (by omega)]
      by_cases e : j = i
      · rw [e, h4]
        simp
      · rw [ha _ (by omega) (by omega), h.2.2.2.2.1 j j0 j1]
        simp [e]
    · rw [zUp_ne (by decide), zUp_at, q_up_ne (by decide), h.2.2.2.2.2]
      exact q_sm_congr (fun j hj => (ha _ (by omega) (by omega)).symm)
  have hi' : q_iI m B (q_fa i s) := fun j hj => by
    have hq := hi j hj
    by_cases e : (j : Int) = i
    · rw [e] at hq ⊢
      rw [ha _ (by omega) (by omega), h1, ha _ (by omega) (by omega), ha _ (by omega) (by omega), h4]
      omega
    · rw [ha _ (by omega) (by omega), ha _ (by omega) (by omega), ha _ (by omega) (by omega), ha _ (by omega) (by omega), ha _ (by omega) (by omega)]
      exact hq
  unfold F_Register_setFailed
  simp (disch := omega) only [Int.add_zero, Int.mul_zero, Int.reduceMul, Int.reduceAdd, Int.mul_one, Int.tdiv_eq_ediv_of_nonneg, Int.tmod_eq_emod_of_nonneg, ↓reduceIte, ↓zLet_eq, ↓zRd_ok, ↓zWr_ok, ↓zC_V, ↓zC_I, ↓zC_J, zUp_at, zUp_ne, q_up_at, q_up_ne, w32_of, w64_of, q_le_T, q_le_F, q_lt_T, q_lt_F, q_eq_T, q_eq_F, true_or, or_true, or_false, false_or, false_and, and_false]
  rw [r_weightOf hr hi' h6 i0 i1]
  simp only [↓zC_I]
  exact ⟨_, rfl, hr, fun c c0 c2 => by rw [zUp_ne c2, zUp_ne c0]⟩
theorem r_handOver {m : Nat} {B i o sum : Int} {ex s : Int → Int} {ν : ZMem} (h : r_rg m ex s ν) (hi : q_iI m B s) (h6 : m ≤ 6) (i0 : 0 ≤ i) (i1 : i < m) (o0 : 0 ≤ o) (o1 : o < m) (hio : i ≠ o) (hs0 : 0 ≤ sum) (hs1 : sum ≤ 9999) : ∃ ν', F_Register_handOver i o sum ν = some (.inr (some (zI (q_ov i sum s))), ν') ∧ r_rg m ex (q_mv i o sum s) ν' ∧ (∀ c, c ≠ 1 → c ≠ 2 → ν' c = ν c) := by
  have hq := hi i.toNat (by omega)
  rw [Int.toNat_of_nonneg i0] at hq
  obtain ⟨c1, u1, p1⟩ := h.1 i i0 i1
  obtain ⟨c2, u2, p2⟩ := h.1 o o0 o1
  have hp := q_mb hq.2.1.1 (show s (5 * i + 1) ≤ 9999 by omega) hs0 hs1
  have ev : s (5 * i + 1) * sum / s (5 * i) = q_ov i sum s := rfl
  unfold F_Register_handOver J_Register_handOver_32
  simp (disch := omega) only [Int.add_zero, Int.mul_zero, Int.reduceMul, Int.reduceAdd, Int.mul_one, Int.tdiv_eq_ediv_of_nonneg, Int.tmod_eq_emod_of_nonneg, ↓reduceIte, ↓zLet_eq, ↓zRd_ok, ↓zWr_ok, ↓zC_V, ↓zC_I, ↓zC_J, zUp_at, zUp_ne, q_up_at, q_up_ne, w32_of, w64_of, q_le_T, q_le_F, q_lt_T, q_lt_F, q_eq_T, q_eq_F, true_or, or_true, or_false, false_or, false_and, and_false, c1, u1, c2, u2, ev]
  have hm : ∀ k, k ≠ 5 * i + 1 → k ≠ 5 * o + 1 → k ≠ 5 * i → k ≠ 5 * o → q_mv i o sum s k = s k := fun k a b c d => by unfold q_mv; rw [if_neg a, if_neg b, if_neg c, if_neg d]
  refine ⟨_, rfl, ⟨fun j j0 j1 => ⟨?_, ?_, ?_⟩, fun d d0 d1 => ?_, ?_, ?_, fun j j0 j1 => ?_, ?_⟩, fun c cc1 cc2 => by simp (disch := omega) only [zUp_ne]⟩
  · simp (disch := omega) only [zUp_at, zUp_ne]
    by_cases e : j = i
    · subst e
      unfold q_mv
      simp (disch := omega) only [Int.add_zero, Int.mul_zero, Int.reduceMul, Int.reduceAdd, Int.mul_one, Int.tdiv_eq_ediv_of_nonneg, Int.tmod_eq_emod_of_nonneg, ↓reduceIte, ↓zLet_eq, ↓zRd_ok, ↓zWr_ok, ↓zC_V, ↓zC_I, ↓zC_J, zUp_at, zUp_ne, q_up_at, q_up_ne, w32_of, w64_of, q_le_T, q_le_F, q_lt_T, q_lt_F, q_eq_T, q_eq_F, true_or, or_true, or_false, false_or, false_and, and_false]
    · by_cases e2 : j = o
      · subst e2
        unfold q_mv
        simp (disch := omega) only [Int.add_zero, Int.mul_zero, Int.reduceMul, Int.reduceAdd, Int.mul_one, Int.tdiv_eq_ediv_of_nonneg, Int.tmod_eq_emod_of_nonneg, ↓reduceIte, ↓zLet_eq, ↓zRd_ok, ↓zWr_ok, ↓zC_V, ↓zC_I, ↓zC_J, zUp_at, zUp_ne, q_up_at, q_up_ne, w32_of, w64_of, q_le_T, q_le_F, q_lt_T, q_lt_F, q_eq_T, q_eq_F, true_or, or_true, or_false, false_or, false_and, and_false]
      · rw [q_up_ne e2, q_up_ne e, hm _ (by omega) (by omega) (by omega) (by omega)]
        exact (h.1 j j0 j1).1
  · simp (disch := omega) only [zUp_at, zUp_ne]
    by_cases e : j = i
    · subst e
      unfold q_mv
      simp (disch := omega) only [Int.add_zero, Int.mul_zero, Int.reduceMul, Int.reduceAdd, Int.mul_one, Int.tdiv_eq_ediv_of_nonneg, Int.tmod_eq_emod_of_nonneg, ↓reduceIte, ↓zLet_eq, ↓zRd_ok, ↓zWr_ok, ↓zC_V, ↓zC_I, ↓zC_J, zUp_at, zUp_ne, q_up_at, q_up_ne, w32_of, w64_of, q_le_T, q_le_F, q_lt_T, q_lt_F, q_eq_T, q_eq_F, true_or, or_true, or_false, false_or, false_and, and_false]
    · by_cases e2 : j = o
      · subst e2
        unfold q_mv
        simp (disch := omega) only [Int.add_zero, Int.mul_zero, Int.reduceMul, Int.reduceAdd, Int.mul_one, Int.tdiv_eq_ediv_of_nonneg, Int.tmod_eq_emod_of_nonneg, ↓reduceIte, ↓zLet_eq, ↓zRd_ok, ↓zWr_ok, ↓zC_V, ↓zC_I, ↓zC_J, zUp_at, zUp_ne, q_up_at, q_up_ne, w32_of, w64_of, q_le_T, q_le_F, q_lt_T, q_lt_F, q_eq_T, q_eq_F, true_or, or_true, or_false, false_or, false_and, and_false]
      · rw [q_up_ne e2, q_up_ne e, hm _ (by omega) (by omega) (by omega) (by omega)]
        exact (h.1 j j0 j1).2.1
  · simp (disch := omega) only [zUp_ne]
    rw [hm _ (by omega) (by omega) (by omega) (by omega)]
    exact (h.1 j j0 j1).2.2
  · simp (disch := omega) only [zUp_ne]
    exact h.2.1 d d0 d1
  · simp (disch := omega) only [zUp_ne]
    exact h.2.2.1
  · simp (disch := omega) only [zUp_ne]
    exact h.2.2.2.1
  · simp (disch := omega) only [zUp_ne]
    rw [hm _ (by omega) (by omega) (by omega) (by omega)]
    exact h.2.2.2.2.1 j j0 j1
  · simp (disch := omega) only [zUp_ne]
    rw [h.2.2.2.2.2]
    exact q_sm_congr (fun j hj => (hm _ (by omega) (by omega) (by omega) (by omega)).symm)
theorem b_bk.mgB {dl : Nat} {tm s : Int → Int} {μ ν : ZMem} (h : b_bk dl tm s ν) : b_bk dl tm s (zVw plB (zMg plB μ ν)) := h
theorem b_bk.mgR {dl : Nat} {tm s : Int → Int} {μ ν : ZMem} (h : b_bk dl tm s (zVw plB μ)) : b_bk dl tm s (zVw plB (zMg plR μ ν)) := h
theorem r_rg.mgR {m : Nat} {ex s : Int → Int} {μ ν : ZMem} (h : r_rg m ex s ν) : r_rg m ex s (zVw plR (zMg plR μ ν)) := h
theorem r_rg.mgB {m : Nat} {ex s : Int → Int} {μ ν : ZMem} (h : r_rg m ex s (zVw plR μ)) : r_rg m ex s (zVw plR (zMg plB μ ν)) := h
theorem q_pay_0 {m : Nat} {B d : Int} {ex : Int → Int} {σ : QS} (hi : q_iI m B σ.1) : q_pay m ex d 0 σ = σ := by
  have hz : ∀ i : Nat, i < m → q_shr m (q_wp ex σ.1 d) 0 i = 0 := q_shr_0 (fun i hii => (q_wp_nn hi i hii).1)
  unfold q_pay
  rw [q_py_0f hz, q_tr_0f hz]
def q_an (m : Nat) (tm ex : Int → Int) (kd who sum ot : Int) (σ : QS) : Int :=
  if kd = 0 then q_sm (fun i => (q_do m tm ex kd who sum ot σ).1 (5 * i + 1)) m
  else if kd = 1 then q_slM tm who sum σ.1 else if kd = 2 then q_slM tm who sum σ.1
  else if kd = 3 then σ.1 (30 + 4 * who + 2) else if kd = 4 then (q_do m tm ex kd who sum ot σ).1 90
  else if kd = 5 then q_wt (q_fa who σ.1) who else if kd = 7 then q_ov who sum σ.1 else q_hl σ.1 + q_ou tm σ.1
