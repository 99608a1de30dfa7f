/-! ===== the class's register holds the row's numbers ===== -/
def r_rg (m : Nat) (ex s : Int → Int) (ν : ZMem) : Prop :=
  (∀ i : Int, 0 ≤ i → i < m → ν 1 i = s (5 * i) ∧ ν 2 i = s (5 * i + 1) ∧ ν 3 i = s (5 * i + 2)) ∧ (∀ d, 0 ≤ d → d < 6 → ν 5 d = ex d) ∧ ν 0 8 = m ∧ (0 ≤ ν 0 9 ∧ ν 0 9 < 64) ∧ (∀ i : Int, 0 ≤ i → i < m → (w32 (zand (zshr (ν 0 9) i) 1) = 1 ↔ s (5 * i + 4) = 1)) ∧ ν 0 10 = q_sm (fun i => s (5 * i + 3)) m
theorem bit_all : ∀ f : Nat, f < 64 → ∀ i : Nat, i < 6 → (0 ≤ zor (f : Int) (zshl 1 (i : Int)) ∧ zor (f : Int) (zshl 1 (i : Int)) < 64) ∧ ∀ j : Nat, j < 6 → (w32 (zand (zshr (zor (f : Int) (zshl 1 (i : Int))) (j : Int)) 1) = 1 ↔ (j = i ∨ w32 (zand (zshr (f : Int) (j : Int)) 1) = 1)) := by decide +kernel
theorem bit_or {f i : Int} (h0 : 0 ≤ f) (h1 : f < 64) (i0 : 0 ≤ i) (i1 : i < 6) : (0 ≤ zor f (zshl 1 i) ∧ zor f (zshl 1 i) < 64) ∧ ∀ j, 0 ≤ j → j < 6 → (w32 (zand (zshr (zor f (zshl 1 i)) j) 1) = 1 ↔ (j = i ∨ w32 (zand (zshr f j) 1) = 1)) := by
  obtain ⟨a, rfl⟩ := Int.eq_ofNat_of_zero_le h0
  obtain ⟨b, rfl⟩ := Int.eq_ofNat_of_zero_le i0
  have h := bit_all a (by omega) b (by omega)
  refine ⟨h.1, fun j j0 j1 => ?_⟩
  obtain ⟨c, rfl⟩ := Int.eq_ofNat_of_zero_le j0
  rw [h.2 c (by omega)]
  constructor
  · rintro (e | e)
    · exact Or.inl (by rw [e])
    · exact Or.inr e
  · rintro (e | e)
    · exact Or.inl (by omega)
    · exact Or.inr e
section RG
variable {m : Nat} {ex s : Int → Int} {ν : ZMem}
theorem r_hasFailed {i : Int} (h : r_rg m ex s ν) (i0 : 0 ≤ i) (i1 : i < m) : F_Register_hasFailed i ν = some (.inr (some (zI (if s (5 * i + 4) = 1 then 1 else 0))), ν) := by
  have hb := h.2.2.2.2.1 i i0 i1
  unfold F_Register_hasFailed
  rw [w32_of (a := 1) (by decide) (by decide)]
  by_cases hx : s (5 * i + 4) = 1
  · rw [if_pos hx, if_pos (hb.mpr hx)]
  · rw [if_neg hx, if_neg (fun hh => hx (hb.mp hh))]
theorem r_isExcused {i d : Int} (h : r_rg m ex s ν) (d0 : -1 ≤ d) (d1 : d < 6) : F_Register_isExcused i d ν = some (.inr (some (zI (if q_ex ex i d then 1 else 0))), ν) := by
  unfold F_Register_isExcused
  rw [w32_of (a := d) (by omega) (by omega), w32_of (a := -1) (by omega) (by omega)]
  by_cases hd : d = -1
  · rw [if_pos hd, if_neg (fun q => q.1 hd)]
  · rw [if_neg hd, zRd_ok (by omega) (by omega) (by omega), w32_of (a := 1) (by omega) (by omega), h.2.1 d (by omega) d1]
    by_cases hx : w32 (zand (zshr (ex d) i) 1) = 1
    · rw [if_pos hx, if_pos ⟨hd, hx⟩]
    · rw [if_neg hx, if_neg (fun q => hx q.2)]
theorem r_weightOf {B i : Int} (h : r_rg m ex s ν) (hi : q_iI m B s) (h6 : m ≤ 6) (i0 : 0 ≤ i) (i1 : i < m) : F_Register_weightOf i ν = some (.inr (some (zI (q_wt s i))), ν) := by
  have hb := h.2.2.2.2.1 i i0 i1
  have e1 := (h.1 i i0 i1).1
  have hq := hi i.toNat (by omega)
  rw [Int.toNat_of_nonneg i0] at hq
  unfold F_Register_weightOf J_Register_weightOf_17 q_wt
  rw [w32_of (a := 1) (by decide) (by decide)]
  by_cases hx : s (5 * i + 4) = 1
  · rw [if_pos hx, if_pos (hb.mpr hx)]
    simp (disch := omega) only [Int.add_zero, Int.mul_zero, Int.reduceMul, Int.reduceAdd, Int.mul_one, Int.tdiv_eq_ediv_of_nonneg, Int.tmod_eq_emod_of_nonneg, ↓reduceIte, ↓zLet_eq, ↓zRd_ok, ↓zWr_ok, ↓zC_V, ↓zC_I, ↓zC_J, zUp_at, zUp_ne, q_up_at, q_up_ne, w32_of, w64_of, q_le_T, q_le_F, q_lt_T, q_lt_F, q_eq_T, q_eq_F, true_or, or_true, or_false, false_or, false_and, and_false, e1]
  · rw [if_neg hx, if_neg (fun hh => hx (hb.mp hh))]
    simp (disch := omega) only [Int.add_zero, Int.mul_zero, Int.reduceMul, Int.reduceAdd, Int.mul_one, Int.tdiv_eq_ediv_of_nonneg, Int.tmod_eq_emod_of_nonneg, ↓reduceIte, ↓zLet_eq, ↓zRd_ok, ↓zWr_ok, ↓zC_V, ↓zC_I, ↓zC_J, zUp_at, zUp_ne, q_up_at, q_up_ne, w32_of, w64_of, q_le_T, q_le_F, q_lt_T, q_lt_F, q_eq_T, q_eq_F, true_or, or_true, or_false, false_or, false_and, and_false, e1]
theorem q_wt_bd {B i : Int} (hi : q_iI m B s) (i0 : 0 ≤ i) (i1 : i < m) : 1 ≤ q_wt s i ∧ q_wt s i ≤ 9999 := by
  have hq := hi i.toNat (by omega)
  rw [Int.toNat_of_nonneg i0] at hq
  unfold q_wt
  split <;> omega
theorem r_weighFor {B d : Int} (h : r_rg m ex s ν) (hi : q_iI m B s) (h6 : m ≤ 6) (d0 : -1 ≤ d) (d1 : d < 6) : F_Register_weighFor d ν = some (.inr none, q_fi ν 6 (q_wg ex s d) m) := by
  unfold F_Register_weighFor
  refine q_map (L := fun n j ν => L_Register_weighFor_2 d (fun μ7 => some (.inr none, μ7)) n j ν) (K := fun μ7 => some (.inr none, μ7)) (fun n j hj => ?_) (fun n => ?_) (zN_gt (by omega))
  · have hr : r_rg m ex s (q_fi ν 6 (q_wg ex s d) j) := by
      unfold r_rg
      rw [q_fi_ne (by decide), q_fi_ne (by decide), q_fi_ne (by decide), q_fi_ne (by decide), q_fi_ne (by decide)]
      exact h
    have e08 := hr.2.2.1
    have hw := q_wt_bd (i := j) hi (by omega) (by omega)
    by_cases hx : q_ex ex j d
    · simp (disch := omega) only [L_Register_weighFor_2, J_Register_weighFor_34, Int.add_zero, Int.mul_zero, Int.reduceMul, Int.reduceAdd, Int.mul_one, Int.tdiv_eq_ediv_of_nonneg, Int.tmod_eq_emod_of_nonneg, ↓reduceIte, ↓zLet_eq, ↓zRd_ok, ↓zWr_ok, ↓zC_V, ↓zC_I, ↓zC_J, zUp_at, zUp_ne, q_up_at, q_up_ne, w32_of, w64_of, q_le_T, q_le_F, q_lt_T, q_lt_F, q_eq_T, q_eq_F, true_or, or_true, or_false, false_or, false_and, and_false, r_isExcused hr d0 d1, if_pos hx, q_wg]
    · simp (disch := omega) only [L_Register_weighFor_2, J_Register_weighFor_34, Int.add_zero, Int.mul_zero, Int.reduceMul, Int.reduceAdd, Int.mul_one, Int.tdiv_eq_ediv_of_nonneg, Int.tmod_eq_emod_of_nonneg, ↓reduceIte, ↓zLet_eq, ↓zRd_ok, ↓zWr_ok, ↓zC_V, ↓zC_I, ↓zC_J, zUp_at, zUp_ne, q_up_at, q_up_ne, w32_of, w64_of, q_le_T, q_le_F, q_lt_T, q_lt_F, q_eq_T, q_eq_F, true_or, or_true, or_false, false_or, false_and, and_false, r_isExcused hr d0 d1, r_weightOf hr hi h6, if_neg hx]
      simp only [q_wg, if_neg hx]
  · have e08 : q_fi ν 6 (q_wg ex s d) m 0 8 = m := by rw [q_fi_ne (by decide)]; exact h.2.2.1
    simp (disch := omega) only [L_Register_weighFor_2, Int.add_zero, Int.mul_zero, Int.reduceMul, Int.reduceAdd, Int.mul_one, Int.tdiv_eq_ediv_of_nonneg, Int.tmod_eq_emod_of_nonneg, ↓reduceIte, ↓zLet_eq, ↓zRd_ok, ↓zWr_ok, ↓zC_V, ↓zC_I, ↓zC_J, zUp_at, zUp_ne, q_up_at, q_up_ne, w32_of, w64_of, q_le_T, q_le_F, q_lt_T, q_lt_F, q_eq_T, q_eq_F, true_or, or_true, or_false, false_or, false_and, and_false]
theorem r_weighUncalled {B d : Int} (h : r_rg m ex s ν) (hi : q_iI m B s) (h6 : m ≤ 6) (d0 : -1 ≤ d) (d1 : d < 6) : F_Register_weighUncalled d ν = some (.inr none, q_fi ν 6 (q_wp ex s d) m) := by
  unfold F_Register_weighUncalled
  refine q_map (L := fun n j ν => L_Register_weighUncalled_2 d (fun μ6 => some (.inr none, μ6)) n j ν) (K := fun μ6 => some (.inr none, μ6)) (fun n j hj => ?_) (fun n => ?_) (zN_gt (by omega))
  · have hr : r_rg m ex s (q_fi ν 6 (q_wp ex s d) j) := by
      unfold r_rg
      rw [q_fi_ne (by decide), q_fi_ne (by decide), q_fi_ne (by decide), q_fi_ne (by decide), q_fi_ne (by decide)]
      exact h
    have e08 := hr.2.2.1
    have e2 := (hr.1 j (by omega) (by omega)).2.1
    have hq := hi j hj
    by_cases hx : q_ex ex j d
    · simp (disch := omega) only [L_Register_weighUncalled_2, J_Register_weighUncalled_35, Int.add_zero, Int.mul_zero, Int.reduceMul, Int.reduceAdd, Int.mul_one, Int.tdiv_eq_ediv_of_nonneg, Int.tmod_eq_emod_of_nonneg, ↓reduceIte, ↓zLet_eq, ↓zRd_ok, ↓zWr_ok, ↓zC_V, ↓zC_I, ↓zC_J, zUp_at, zUp_ne, q_up_at, q_up_ne, w32_of, w64_of, q_le_T, q_le_F, q_lt_T, q_lt_F, q_eq_T, q_eq_F, true_or, or_true, or_false, false_or, false_and, and_false, r_isExcused hr d0 d1, if_pos hx, q_wp]
    · simp (disch := omega) only [L_Register_weighUncalled_2, J_Register_weighUncalled_35, Int.add_zero, Int.mul_zero, Int.reduceMul, Int.reduceAdd, Int.mul_one, Int.tdiv_eq_ediv_of_nonneg, Int.tmod_eq_emod_of_nonneg, ↓reduceIte, ↓zLet_eq, ↓zRd_ok, ↓zWr_ok, ↓zC_V, ↓zC_I, ↓zC_J, zUp_at, zUp_ne, q_up_at, q_up_ne, w32_of, w64_of, q_le_T, q_le_F, q_lt_T, q_lt_F, q_eq_T, q_eq_F, true_or, or_true, or_false, false_or, false_and, and_false, r_isExcused hr d0 d1, if_neg hx, e2, q_wp]
  · have e08 : q_fi ν 6 (q_wp ex s d) m 0 8 = m := by rw [q_fi_ne (by decide)]; exact h.2.2.1
    simp (disch := omega) only [L_Register_weighUncalled_2, Int.add_zero, Int.mul_zero, Int.reduceMul, Int.reduceAdd, Int.mul_one, Int.tdiv_eq_ediv_of_nonneg, Int.tmod_eq_emod_of_nonneg, ↓reduceIte, ↓zLet_eq, ↓zRd_ok, ↓zWr_ok, ↓zC_V, ↓zC_I, ↓zC_J, zUp_at, zUp_ne, q_up_at, q_up_ne, w32_of, w64_of, q_le_T, q_le_F, q_lt_T, q_lt_F, q_eq_T, q_eq_F, true_or, or_true, or_false, false_or, false_and, and_false]
theorem r_callable {B d : Int} (h : r_rg m ex s ν) (hi : q_iI m B s) (h6 : m ≤ 6) (d0 : -1 ≤ d) (d1 : d < 6) : F_Register_callable d ν = some (.inr (some (zJ (q_sm (q_wp ex s d) m))), ν) := by
  have e08 := h.2.2.1
  unfold F_Register_callable
  refine q_acc (L := fun n a j => L_Register_callable_5 d _ n a j ν) (f := q_wp ex s d) (K := fun k => some (.inr (some (zJ k)), ν)) (fun n a j hj => ?_) (fun n a => ?_) (zN_gt (by omega))
  · have e2 := (h.1 j (by omega) (by omega)).2.1
    have hq := hi j hj
    by_cases hx : q_ex ex j d
    · simp (disch := omega) only [L_Register_callable_5, J_Register_callable_35, Int.add_zero, Int.mul_zero, Int.reduceMul, Int.reduceAdd, Int.mul_one, Int.tdiv_eq_ediv_of_nonneg, Int.tmod_eq_emod_of_nonneg, ↓reduceIte, ↓zLet_eq, ↓zRd_ok, ↓zWr_ok, ↓zC_V, ↓zC_I, ↓zC_J, zUp_at, zUp_ne, q_up_at, q_up_ne, w32_of, w64_of, q_le_T, q_le_F, q_lt_T, q_lt_F, q_eq_T, q_eq_F, true_or, or_true, or_false, false_or, false_and, and_false, r_isExcused h d0 d1, if_pos hx, q_wp]
    · simp (disch := omega) only [L_Register_callable_5, J_Register_callable_35, Int.add_zero, Int.mul_zero, Int.reduceMul, Int.reduceAdd, Int.mul_one, Int.tdiv_eq_ediv_of_nonneg, Int.tmod_eq_emod_of_nonneg, ↓reduceIte, ↓zLet_eq, ↓zRd_ok, ↓zWr_ok, ↓zC_V, ↓zC_I, ↓zC_J, zUp_at, zUp_ne, q_up_at, q_up_ne, w32_of, w64_of, q_le_T, q_le_F, q_lt_T, q_lt_F, q_eq_T, q_eq_F, true_or, or_true, or_false, false_or, false_and, and_false, r_isExcused h d0 d1, if_neg hx, e2, q_wp]
  · simp (disch := omega) only [L_Register_callable_5, Int.add_zero, Int.mul_zero, Int.reduceMul, Int.reduceAdd, Int.mul_one, Int.tdiv_eq_ediv_of_nonneg, Int.tmod_eq_emod_of_nonneg, ↓reduceIte, ↓zLet_eq, ↓zRd_ok, ↓zWr_ok, ↓zC_V, ↓zC_I, ↓zC_J, zUp_at, zUp_ne, q_up_at, q_up_ne, w32_of, w64_of, q_le_T, q_le_F, q_lt_T, q_lt_F, q_eq_T, q_eq_F, true_or, or_true, or_false, false_or, false_and, and_false]
theorem r_allOf1 {B : Int} (h : r_rg m ex s ν) (hi : q_iI m B s) (h6 : m ≤ 6) : F_Register_allOf_1 ν = some (.inr (some (zJ (q_sm (fun i => s (5 * i)) m))), ν) := by
  have e08 := h.2.2.1
  unfold F_Register_allOf_1
  refine q_acc (L := fun n a j => L_Register_allOf_1_5 ν _ n a j) (f := fun i => s (5 * i)) (K := fun k => some (.inr (some (zJ k)), ν)) (fun n a j hj => ?_) (fun n a => ?_) (zN_gt (by omega))
  · have e2 := (h.1 j (by omega) (by omega)).1
    have hq := hi j hj
    simp (disch := omega) only [L_Register_allOf_1_5, Int.add_zero, Int.mul_zero, Int.reduceMul, Int.reduceAdd, Int.mul_one, Int.tdiv_eq_ediv_of_nonneg, Int.tmod_eq_emod_of_nonneg, ↓reduceIte, ↓zLet_eq, ↓zRd_ok, ↓zWr_ok, ↓zC_V, ↓zC_I, ↓zC_J, zUp_at, zUp_ne, q_up_at, q_up_ne, w32_of, w64_of, q_le_T, q_le_F, q_lt_T, q_lt_F, q_eq_T, q_eq_F, true_or, or_true, or_false, false_or, false_and, and_false, e2]
  · simp (disch := omega) only [L_Register_allOf_1_5, Int.add_zero, Int.mul_zero, Int.reduceMul, Int.reduceAdd, Int.mul_one, Int.tdiv_eq_ediv_of_nonneg, Int.tmod_eq_emod_of_nonneg, ↓reduceIte, ↓zLet_eq, ↓zRd_ok, ↓zWr_ok, ↓zC_V, ↓zC_I, ↓zC_J, zUp_at, zUp_ne, q_up_at, q_up_ne, w32_of, w64_of, q_le_T, q_le_F, q_lt_T, q_lt_F, q_eq_T, q_eq_F, true_or, or_true, or_false, false_or, false_and, and_false]
theorem r_allOf2 {B : Int} (h : r_rg m ex s ν) (hi : q_iI m B s) (h6 : m ≤ 6) : F_Register_allOf_2 ν = some (.inr (some (zJ (q_sm (fun i => s (5 * i + 1)) m))), ν) := by
  have e08 := h.2.2.1
  unfold F_Register_allOf_2
  refine q_acc (L := fun n a j => L_Register_allOf_2_5 ν _ n a j) (f := fun i => s (5 * i + 1)) (K := fun k => some (.inr (some (zJ k)), ν)) (fun n a j hj => ?_) (fun n a => ?_) (zN_gt (by omega))
  · have e2 := (h.1 j (by omega) (by omega)).2.1
    have hq := hi j hj
    simp (disch := omega) only [L_Register_allOf_2_5, Int.add_zero, Int.mul_zero, Int.reduceMul, Int.reduceAdd, Int.mul_one, Int.tdiv_eq_ediv_of_nonneg, Int.tmod_eq_emod_of_nonneg, ↓reduceIte, ↓zLet_eq, ↓zRd_ok, ↓zWr_ok, ↓zC_V, ↓zC_I, ↓zC_J, zUp_at, zUp_ne, q_up_at, q_up_ne, w32_of, w64_of, q_le_T, q_le_F, q_lt_T, q_lt_F, q_eq_T, q_eq_F, true_or, or_true, or_false, false_or, false_and, and_false, e2]
  · simp (disch := omega) only [L_Register_allOf_2_5, Int.add_zero, Int.mul_zero, Int.reduceMul, Int.reduceAdd, Int.mul_one, Int.tdiv_eq_ediv_of_nonneg, Int.tmod_eq_emod_of_nonneg, ↓reduceIte, ↓zLet_eq, ↓zRd_ok, ↓zWr_ok, ↓zC_V, ↓zC_I, ↓zC_J, zUp_at, zUp_ne, q_up_at, q_up_ne, w32_of, w64_of, q_le_T, q_le_F, q_lt_T, q_lt_F, q_eq_T, q_eq_F, true_or, or_true, or_false, false_or, false_and, and_false]
end RG
