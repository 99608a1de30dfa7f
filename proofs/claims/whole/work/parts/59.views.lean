/-! ===== parts of the memory ===== -/
theorem zIx_rho {pl : List Nat} {c j : Nat} (h : zIx pl 0 c = some j) : zRho pl j = c := by
  obtain ⟨-, hj⟩ := zIx_some h
  rw [Nat.sub_zero] at hj
  unfold zRho
  rw [List.getD_eq_getElem?_getD, hj]
  rfl
theorem zMg_vw (pl : List Nat) (μ : ZMem) : zMg pl μ (zVw pl μ) = μ := by
  funext c i
  unfold zMg
  cases h : zIx pl 0 c with
  | none => rfl
  | some j =>
    show μ (zRho pl j) i = μ c i
    rw [zIx_rho h]
/-- what the callee left as it was is as it was -/
theorem zMg_fr {pl : List Nat} {μ ν : ZMem} {bad : List Nat} (h : ∀ j, j ∉ bad → ν j = zVw pl μ j) {c : Nat} (hc : c ∉ bad.map (zRho pl)) : zMg pl μ ν c = μ c := by
  funext i
  unfold zMg
  cases hx : zIx pl 0 c with
  | none => rfl
  | some j =>
    have e := zIx_rho hx
    have hj : j ∉ bad := fun hh => hc (by rw [← e]; exact List.mem_map_of_mem hh)
    show ν j i = μ c i
    rw [h j hj]
    show μ (zRho pl j) i = μ c i
    rw [e]
theorem zMg_out {pl : List Nat} {μ ν : ZMem} {c : Nat} (hc : c ∉ pl) : zMg pl μ ν c = μ c := by
  funext i
  unfold zMg
  cases hx : zIx pl 0 c with
  | none => rfl
  | some j =>
    obtain ⟨-, hj⟩ := zIx_some hx
    exact absurd (List.mem_of_getElem? hj) hc
theorem zMg_in {pl : List Nat} {μ ν : ZMem} {c j : Nat} (hc : zIx pl 0 c = some j) : zMg pl μ ν c = ν j := by
  funext i
  unfold zMg
  rw [hc]
abbrev plB : List Nat := [1, 2, 3, 4, 5, 6]
abbrev plR : List Nat := [7, 8, 9, 10, 11, 12, 13, 14, 15]
theorem q_wg_pos {m dl : Nat} {B d : Int} {tm ex pr s : Int → Int} (hf : q_fu m dl tm ex pr) (hi : q_iI m B s) (hm : 0 < m) (hd : d = -1 ∨ (0 ≤ d ∧ d < dl)) : 0 < q_sm (q_wg ex s d) m := by
  have key : ∀ i : Nat, i < m → ¬ q_ex ex i d → 0 < q_sm (q_wg ex s d) m := fun i h hx => by
    have h1 := q_sm_one (f := q_wg ex s d) (fun j hj => (q_wg_nn hi j hj).1) i h
    have h2 := q_wt_bd (i := i) hi (by omega) (by omega)
    have h3 : q_wg ex s d i = q_wt s i := if_neg hx
    omega
  rcases hd with rfl | ⟨d0, d1⟩
  · exact key 0 hm (fun hh => hh.1 rfl)
  · obtain ⟨-, -, i, hi1, hi2⟩ := hf.2.2.2.2.2 d.toNat (by omega)
    rw [Int.toNat_of_nonneg d0] at hi2
    exact key i hi1 hi2
theorem q_shr_0 {m : Nat} {w : Int → Int} (hw : ∀ i : Nat, i < m → 0 ≤ w i) (i : Nat) (hi : i < m) : q_shr m w 0 i = 0 := by
  have := q_shr_bd (Int.le_refl 0) hw i hi
  omega
theorem q_gt_0 {m : Nat} {pt s : Int → Int} (h : ∀ i : Nat, i < m → pt i = 0) : q_gt m pt s = s := by
  rw [q_gt_congr (pt' := fun _ => 0) h]
  funext k
  unfold q_gt
  split
  · exact Int.add_zero _
  · rfl
theorem q_py_0f {m : Nat} {pt s : Int → Int} (h : ∀ i : Nat, i < m → pt i = 0) : q_py m pt s = s := by
  rw [q_py_congr (pt' := fun _ => 0) h]
  funext k
  unfold q_py
  split
  · split
    · exact Int.sub_zero _
    · split
      · exact Int.add_zero _
      · rfl
  · rfl
theorem q_tr_0f {m : Nat} {q : Int} {pt p : Int → Int} (h : ∀ i : Nat, i < m → pt i = 0) : q_tr m q pt p = p := by
  rw [q_tr_congr (pt' := fun _ => 0) h]
  funext k
  unfold q_tr
  split
  · exact Int.add_zero _
  · rfl
/-- what all got, behind a sum shared -/
theorem q_gt_sum {m : Nat} {pt s : Int → Int} : q_sm (fun i => q_gt m pt s (5 * i + 3)) m = q_sm (fun i => s (5 * i + 3)) m + q_sm pt m := by
  rw [← q_sm_add]
  exact q_sm_congr (fun i hi => q_gt_3 (by omega) (by omega))
theorem q_py_got {m : Nat} {pt s : Int → Int} : q_sm (fun i => q_py m pt s (5 * i + 3)) m = q_sm (fun i => s (5 * i + 3)) m := q_sm_congr (fun i _ => q_py_3 i)
/-! the state's register part, at the state's own cells -/
theorem r_rg.mk {m : Nat} {ex s : Int → Int} {μ : ZMem} (h1 : ∀ i : Int, 0 ≤ i → i < m → μ 8 i = s (5 * i) ∧ μ 9 i = s (5 * i + 1) ∧ μ 10 i = s (5 * i + 2)) (h2 : ∀ d, 0 ≤ d → d < 6 → μ 12 d = ex d) (h3 : μ 7 8 = m) (h4 : 0 ≤ μ 7 9 ∧ μ 7 9 < 64) (h5 : ∀ i : Int, 0 ≤ i → i < m → (w32 (zand (zshr (μ 7 9) i) 1) = 1 ↔ s (5 * i + 4) = 1)) (h6 : μ 7 10 = q_sm (fun i => s (5 * i + 3)) m) : r_rg m ex s (zVw plR μ) := ⟨h1, h2, h3, h4, h5, h6⟩
theorem b_bk.mk {dl : Nat} {tm s : Int → Int} {μ : ZMem} (h1 : ∀ k, 0 ≤ k → k < 7 → μ 2 k = tm k) (h2 : ∀ k, 0 ≤ k → k < 24 → μ 3 k = s (62 + k)) (h3 : ∀ k, 24 ≤ k → k < 32 → μ 3 k = s (30 + k)) (h4 : ∀ k, 0 ≤ k → k < 24 → μ 4 k = s (30 + k)) (h5 : ∀ k, 0 ≤ k → k < 4 → μ 5 k = s (86 + k)) (h6 : μ 1 5 = dl) (h7 : μ 1 6 = s 90) (h8 : μ 1 7 = s 91) : b_bk dl tm s (zVw plB μ) := ⟨h1, h2, h3, h4, h5, h6, h7, h8⟩
/-- the common part of a state: books and register -/
def s_c (m dl : Nat) (tm ex s : Int → Int) (μ : ZMem) : Prop := b_bk dl tm s (zVw plB μ) ∧ r_rg m ex s (zVw plR μ)
theorem b_bk.cong {dl : Nat} {tm s : Int → Int} {ν ν' : ZMem} (h : b_bk dl tm s ν) (e0 : ν' 0 = ν 0) (e1 : ν' 1 = ν 1) (e2 : ν' 2 = ν 2) (e3 : ν' 3 = ν 3) (e4 : ν' 4 = ν 4) : b_bk dl tm s ν' := by
  unfold b_bk
  rw [e0, e1, e2, e3, e4]
  exact h
theorem r_rg.cong {m : Nat} {ex s : Int → Int} {ν ν' : ZMem} (h : r_rg m ex s ν) (e0 : ν' 0 = ν 0) (e1 : ν' 1 = ν 1) (e2 : ν' 2 = ν 2) (e3 : ν' 3 = ν 3) (e5 : ν' 5 = ν 5) : r_rg m ex s ν' := by
  unfold r_rg
  rw [e0, e1, e2, e3, e5]
  exact h
/-- the register's parts of a row alone count -/
theorem r_rg.congr {m : Nat} {ex s s' : Int → Int} {ν : ZMem} (h : r_rg m ex s ν) (h6 : m ≤ 6) (e : ∀ k, 0 ≤ k → k < 30 → s' k = s k) : r_rg m ex s' ν := by
  refine ⟨fun i i0 i1 => ?_, h.2.1, h.2.2.1, h.2.2.2.1, fun i i0 i1 => ?_, ?_⟩
  · rw [e _ (by omega) (by omega), e _ (by omega) (by omega), e _ (by omega) (by omega)]
    exact h.1 i i0 i1
  · rw [e _ (by omega) (by omega)]
    exact h.2.2.2.2.1 i i0 i1
  · rw [h.2.2.2.2.2]
    exact q_sm_congr (fun i hi => (e _ (by omega) (by omega)).symm)
theorem s_canBe_w {m dl : Nat} {B kd who sum ot : Int} {tm ex s : Int → Int} {μ : ZMem} (h : s_c m dl tm ex s μ) (hi : q_inv m dl B s) (h6 : m ≤ 6) (hdl : dl ≤ 6) (ha : q_ac m dl kd who sum ot) : (F_State_canBe kd who sum ot μ = some (.inr (some (zI (q_can m dl ex kd who sum ot s))), μ)) ∧ (F_State_canBe_w2 kd who sum ot μ = some (.inr (some (zI (q_can m dl ex kd who sum ot s))), μ)) := by
  obtain ⟨hb, hr⟩ := h
  obtain ⟨a0, a1, a2, a3, a4, a5, a6, a7⟩ := ha
  have hp := hi.2.2.2.1
  unfold q_iP at hp
  have e8 : μ 7 8 = m := hr.2.2.1
  have e7 : μ 1 7 = s 91 := hb.2.2.2.2.2.2.2
  have e6 : μ 1 6 = s 90 := hb.2.2.2.2.2.2.1
  unfold F_State_canBe F_State_canBe_w2 q_can
  by_cases m0 : m = 0
  · simp (disch := omega) only [Int.add_zero, Int.mul_zero, Int.reduceMul, Int.reduceAdd, Int.mul_one, Int.tdiv_eq_ediv_of_nonneg, Int.tmod_eq_emod_of_nonneg, ↓reduceIte, ↓zLet_eq, ↓zRd_ok, ↓zWr_ok, ↓zC_V, ↓zC_I, ↓zC_J, zUp_at, zUp_ne, q_up_at, q_up_ne, w32_of, w64_of, q_le_T, q_le_F, q_lt_T, q_lt_F, q_eq_T, q_eq_F, true_or, or_true, or_false, false_or, false_and, and_false, and_self, implies_true, true_and, and_true, ne_eq, not_true_eq_false, not_false_eq_true, false_implies, true_implies, if_pos m0]
  rw [if_neg m0]
  by_cases h91 : s 91 = 1
  · simp (disch := omega) only [Int.add_zero, Int.mul_zero, Int.reduceMul, Int.reduceAdd, Int.mul_one, Int.tdiv_eq_ediv_of_nonneg, Int.tmod_eq_emod_of_nonneg, ↓reduceIte, ↓zLet_eq, ↓zRd_ok, ↓zWr_ok, ↓zC_V, ↓zC_I, ↓zC_J, zUp_at, zUp_ne, q_up_at, q_up_ne, w32_of, w64_of, q_le_T, q_le_F, q_lt_T, q_lt_F, q_eq_T, q_eq_F, true_or, or_true, or_false, false_or, false_and, and_false, and_self, implies_true, true_and, and_true, ne_eq, not_true_eq_false, not_false_eq_true, false_implies, true_implies]
  have hop : kd ≤ 3 → F_Books_isOpen who (zVw plB μ) = some (.inr (some (zI (if s (30 + 4 * who + 3) = 0 then 1 else 0))), zVw plB μ) := fun hk => by
    have w := a1 hk
    have hD := hi.2.1 who.toNat (by omega)
    rw [Int.toNat_of_nonneg w.1] at hD
    exact b_isOpen hb w.1 (by omega) hD.2.2.2.1 hD.2.2.2.2
  by_cases k0 : kd = 0
  · subst k0
    have w := a1 (by omega)
    have h1 := hop (by omega)
    have h2 := r_callable (d := who) hr hi.1 h6 (by omega) (by omega)
    have hbd : 0 ≤ q_sm (q_wp ex s who) m := q_sm_nonneg (fun i h => (q_wp_nn hi.1 i h).1)
    have hb2 : q_sm (q_wp ex s who) m ≤ 6 * 9999 := q_sm_bd6 h6 (by decide) (fun i h => by have h1 := (q_wp_nn (ex := ex) (d := who) hi.1 i h).2; have h2 := hi.1 i h; omega)
    by_cases hz : s (30 + 4 * who + 3) = 0
    · rw [if_pos hz] at h1
      by_cases hlt : q_sm (q_wp ex s who) m < sum
      · simp (disch := omega) only [Int.add_zero, Int.mul_zero, Int.reduceMul, Int.reduceAdd, Int.mul_one, Int.tdiv_eq_ediv_of_nonneg, Int.tmod_eq_emod_of_nonneg, ↓reduceIte, ↓zLet_eq, ↓zRd_ok, ↓zWr_ok, ↓zC_V, ↓zC_I, ↓zC_J, zUp_at, zUp_ne, q_up_at, q_up_ne, w32_of, w64_of, q_le_T, q_le_F, q_lt_T, q_lt_F, q_eq_T, q_eq_F, true_or, or_true, or_false, false_or, false_and, and_false, and_self, implies_true, true_and, and_true, ne_eq, not_true_eq_false, not_false_eq_true, false_implies, true_implies, h1, ↓zCm_I, ↓zCm_J, zMg_vw, h2]
      · simp (disch := omega) only [Int.add_zero, Int.mul_zero, Int.reduceMul, Int.reduceAdd, Int.mul_one, Int.tdiv_eq_ediv_of_nonneg, Int.tmod_eq_emod_of_nonneg, ↓reduceIte, ↓zLet_eq, ↓zRd_ok, ↓zWr_ok, ↓zC_V, ↓zC_I, ↓zC_J, zUp_at, zUp_ne, q_up_at, q_up_ne, w32_of, w64_of, q_le_T, q_le_F, q_lt_T, q_lt_F, q_eq_T, q_eq_F, true_or, or_true, or_false, false_or, false_and, and_false, and_self, implies_true, true_and, and_true, ne_eq, not_true_eq_false, not_false_eq_true, false_implies, true_implies, h1, ↓zCm_I, ↓zCm_J, zMg_vw, h2]
    · rw [if_neg hz] at h1
      simp (disch := omega) only [Int.add_zero, Int.mul_zero, Int.reduceMul, Int.reduceAdd, Int.mul_one, Int.tdiv_eq_ediv_of_nonneg, Int.tmod_eq_emod_of_nonneg, ↓reduceIte, ↓zLet_eq, ↓zRd_ok, ↓zWr_ok, ↓zC_V, ↓zC_I, ↓zC_J, zUp_at, zUp_ne, q_up_at, q_up_ne, w32_of, w64_of, q_le_T, q_le_F, q_lt_T, q_lt_F, q_eq_T, q_eq_F, true_or, or_true, or_false, false_or, false_and, and_false, and_self, implies_true, true_and, and_true, ne_eq, not_true_eq_false, not_false_eq_true, false_implies, true_implies, h1, ↓zCm_I, zMg_vw]
  by_cases k1 : kd = 1
  · subst k1
    have h1 := hop (by omega)
    by_cases hz : s (30 + 4 * who + 3) = 0
    · rw [if_pos hz] at h1
      simp (disch := omega) only [Int.add_zero, Int.mul_zero, Int.reduceMul, Int.reduceAdd, Int.mul_one, Int.tdiv_eq_ediv_of_nonneg, Int.tmod_eq_emod_of_nonneg, ↓reduceIte, ↓zLet_eq, ↓zRd_ok, ↓zWr_ok, ↓zC_V, ↓zC_I, ↓zC_J, zUp_at, zUp_ne, q_up_at, q_up_ne, w32_of, w64_of, q_le_T, q_le_F, q_lt_T, q_lt_F, q_eq_T, q_eq_F, true_or, or_true, or_false, false_or, false_and, and_false, and_self, implies_true, true_and, and_true, ne_eq, not_true_eq_false, not_false_eq_true, false_implies, true_implies, h1, ↓zCm_I, zMg_vw]
    · rw [if_neg hz] at h1
      simp (disch := omega) only [Int.add_zero, Int.mul_zero, Int.reduceMul, Int.reduceAdd, Int.mul_one, Int.tdiv_eq_ediv_of_nonneg, Int.tmod_eq_emod_of_nonneg, ↓reduceIte, ↓zLet_eq, ↓zRd_ok, ↓zWr_ok, ↓zC_V, ↓zC_I, ↓zC_J, zUp_at, zUp_ne, q_up_at, q_up_ne, w32_of, w64_of, q_le_T, q_le_F, q_lt_T, q_lt_F, q_eq_T, q_eq_F, true_or, or_true, or_false, false_or, false_and, and_false, and_self, implies_true, true_and, and_true, ne_eq, not_true_eq_false, not_false_eq_true, false_implies, true_implies, h1, ↓zCm_I, zMg_vw]
  by_cases k2 : kd = 2
  · subst k2
    have h1 := hop (by omega)
    by_cases hz : s (30 + 4 * who + 3) = 0
    · rw [if_pos hz] at h1
      simp (disch := omega) only [Int.add_zero, Int.mul_zero, Int.reduceMul, Int.reduceAdd, Int.mul_one, Int.tdiv_eq_ediv_of_nonneg, Int.tmod_eq_emod_of_nonneg, ↓reduceIte, ↓zLet_eq, ↓zRd_ok, ↓zWr_ok, ↓zC_V, ↓zC_I, ↓zC_J, zUp_at, zUp_ne, q_up_at, q_up_ne, w32_of, w64_of, q_le_T, q_le_F, q_lt_T, q_lt_F, q_eq_T, q_eq_F, true_or, or_true, or_false, false_or, false_and, and_false, and_self, implies_true, true_and, and_true, ne_eq, not_true_eq_false, not_false_eq_true, false_implies, true_implies, h1, ↓zCm_I, zMg_vw]
    · rw [if_neg hz] at h1
      simp (disch := omega) only [Int.add_zero, Int.mul_zero, Int.reduceMul, Int.reduceAdd, Int.mul_one, Int.tdiv_eq_ediv_of_nonneg, Int.tmod_eq_emod_of_nonneg, ↓reduceIte, ↓zLet_eq, ↓zRd_ok, ↓zWr_ok, ↓zC_V, ↓zC_I, ↓zC_J, zUp_at, zUp_ne, q_up_at, q_up_ne, w32_of, w64_of, q_le_T, q_le_F, q_lt_T, q_lt_F, q_eq_T, q_eq_F, true_or, or_true, or_false, false_or, false_and, and_false, and_self, implies_true, true_and, and_true, ne_eq, not_true_eq_false, not_false_eq_true, false_implies, true_implies, h1, ↓zCm_I, zMg_vw]
  by_cases k3 : kd = 3
  · subst k3
    simp (disch := omega) only [Int.add_zero, Int.mul_zero, Int.reduceMul, Int.reduceAdd, Int.mul_one, Int.tdiv_eq_ediv_of_nonneg, Int.tmod_eq_emod_of_nonneg, ↓reduceIte, ↓zLet_eq, ↓zRd_ok, ↓zWr_ok, ↓zC_V, ↓zC_I, ↓zC_J, zUp_at, zUp_ne, q_up_at, q_up_ne, w32_of, w64_of, q_le_T, q_le_F, q_lt_T, q_lt_F, q_eq_T, q_eq_F, true_or, or_true, or_false, false_or, false_and, and_false, and_self, implies_true, true_and, and_true, ne_eq, not_true_eq_false, not_false_eq_true, false_implies, true_implies]
  by_cases k4 : kd = 4
  · subst k4
    by_cases hlt : 200 < s 90 + sum
    · simp (disch := omega) only [Int.add_zero, Int.mul_zero, Int.reduceMul, Int.reduceAdd, Int.mul_one, Int.tdiv_eq_ediv_of_nonneg, Int.tmod_eq_emod_of_nonneg, ↓reduceIte, ↓zLet_eq, ↓zRd_ok, ↓zWr_ok, ↓zC_V, ↓zC_I, ↓zC_J, zUp_at, zUp_ne, q_up_at, q_up_ne, w32_of, w64_of, q_le_T, q_le_F, q_lt_T, q_lt_F, q_eq_T, q_eq_F, true_or, or_true, or_false, false_or, false_and, and_false, and_self, implies_true, true_and, and_true, ne_eq, not_true_eq_false, not_false_eq_true, false_implies, true_implies]
    · simp (disch := omega) only [Int.add_zero, Int.mul_zero, Int.reduceMul, Int.reduceAdd, Int.mul_one, Int.tdiv_eq_ediv_of_nonneg, Int.tmod_eq_emod_of_nonneg, ↓reduceIte, ↓zLet_eq, ↓zRd_ok, ↓zWr_ok, ↓zC_V, ↓zC_I, ↓zC_J, zUp_at, zUp_ne, q_up_at, q_up_ne, w32_of, w64_of, q_le_T, q_le_F, q_lt_T, q_lt_F, q_eq_T, q_eq_F, true_or, or_true, or_false, false_or, false_and, and_false, and_self, implies_true, true_and, and_true, ne_eq, not_true_eq_false, not_false_eq_true, false_implies, true_implies]
  by_cases k5 : kd = 5
  · subst k5
    have w := a2 (by omega)
    have h1 := r_hasFailed hr w.1 w.2
    have hF := hi.1 who.toNat (by omega)
    rw [Int.toNat_of_nonneg w.1] at hF
    by_cases hz : s (5 * who + 4) = 1
    · rw [if_pos hz] at h1
      simp (disch := omega) only [Int.add_zero, Int.mul_zero, Int.reduceMul, Int.reduceAdd, Int.mul_one, Int.tdiv_eq_ediv_of_nonneg, Int.tmod_eq_emod_of_nonneg, ↓reduceIte, ↓zLet_eq, ↓zRd_ok, ↓zWr_ok, ↓zC_V, ↓zC_I, ↓zC_J, zUp_at, zUp_ne, q_up_at, q_up_ne, w32_of, w64_of, q_le_T, q_le_F, q_lt_T, q_lt_F, q_eq_T, q_eq_F, true_or, or_true, or_false, false_or, false_and, and_false, and_self, implies_true, true_and, and_true, ne_eq, not_true_eq_false, not_false_eq_true, false_implies, true_implies, h1, ↓zCm_I, zMg_vw]
    · rw [if_neg hz] at h1
      simp (disch := omega) only [Int.add_zero, Int.mul_zero, Int.reduceMul, Int.reduceAdd, Int.mul_one, Int.tdiv_eq_ediv_of_nonneg, Int.tmod_eq_emod_of_nonneg, ↓reduceIte, ↓zLet_eq, ↓zRd_ok, ↓zWr_ok, ↓zC_V, ↓zC_I, ↓zC_J, zUp_at, zUp_ne, q_up_at, q_up_ne, w32_of, w64_of, q_le_T, q_le_F, q_lt_T, q_lt_F, q_eq_T, q_eq_F, true_or, or_true, or_false, false_or, false_and, and_false, and_self, implies_true, true_and, and_true, ne_eq, not_true_eq_false, not_false_eq_true, false_implies, true_implies, h1, ↓zCm_I, zMg_vw]
  by_cases k6 : kd = 6
  · subst k6
    have h1 := b_openDeals hb hi hdl
    have hob : (q_ob s dl = 0 ∧ q_acl s dl = 1) ∨ (1 ≤ q_ob s dl ∧ q_ob s dl < 64 ∧ q_acl s dl = 0) := by
      have key : ∀ n : Nat, n ≤ 6 → (0 ≤ q_ob s n ∧ q_ob s n < 64) ∧ ((q_ob s n = 0 ∧ q_acl s n = 1) ∨ (1 ≤ q_ob s n ∧ q_acl s n = 0)) := by
        intro n
        induction n with
        | zero => intro _; rw [q_ob, q_acl]; omega
        | succ n ih =>
          intro hn
          obtain ⟨i1, i2⟩ := ih (by omega)
          rw [q_ob, q_acl]
          by_cases hz : s (30 + 4 * n + 3) = 0
          · rw [if_pos hz, if_pos hz]
            obtain ⟨b1, b2⟩ := bit_or (f := q_ob s n) (i := n) i1.1 i1.2 (by omega) (by omega)
            refine ⟨b1, Or.inr ⟨?_, rfl⟩⟩
            have b3 := (b2 n (by omega) (by omega)).mpr (Or.inl rfl)
            rcases Int.lt_or_le 0 (zor (q_ob s n) (zshl 1 n)) with hx | hx
            · omega
            · have hz0 : zor (q_ob s n) (zshl 1 n) = 0 := by omega
              rw [hz0] at b3
              have : ∀ j : Nat, j < 6 → ¬ (w32 (zand (zshr 0 (j : Int)) 1) = 1) := by decide +kernel
              exact absurd b3 (this n (by omega))
          · rw [if_neg hz, if_neg hz]
            exact ⟨i1, i2⟩
      obtain ⟨i1, i2⟩ := key dl hdl
      omega
    rcases hob with ⟨o1, o2⟩ | ⟨o1, o2, o3⟩
    · rw [o1] at h1
      rw [o2]
      simp (disch := omega) only [Int.add_zero, Int.mul_zero, Int.reduceMul, Int.reduceAdd, Int.mul_one, Int.tdiv_eq_ediv_of_nonneg, Int.tmod_eq_emod_of_nonneg, ↓reduceIte, ↓zLet_eq, ↓zRd_ok, ↓zWr_ok, ↓zC_V, ↓zC_I, ↓zC_J, zUp_at, zUp_ne, q_up_at, q_up_ne, w32_of, w64_of, q_le_T, q_le_F, q_lt_T, q_lt_F, q_eq_T, q_eq_F, true_or, or_true, or_false, false_or, false_and, and_false, and_self, implies_true, true_and, and_true, ne_eq, not_true_eq_false, not_false_eq_true, false_implies, true_implies, h1, ↓zCm_I, zMg_vw]
    · rw [o3]
      simp (disch := omega) only [Int.add_zero, Int.mul_zero, Int.reduceMul, Int.reduceAdd, Int.mul_one, Int.tdiv_eq_ediv_of_nonneg, Int.tmod_eq_emod_of_nonneg, ↓reduceIte, ↓zLet_eq, ↓zRd_ok, ↓zWr_ok, ↓zC_V, ↓zC_I, ↓zC_J, zUp_at, zUp_ne, q_up_at, q_up_ne, w32_of, w64_of, q_le_T, q_le_F, q_lt_T, q_lt_F, q_eq_T, q_eq_F, true_or, or_true, or_false, false_or, false_and, and_false, and_self, implies_true, true_and, and_true, ne_eq, not_true_eq_false, not_false_eq_true, false_implies, true_implies, h1, ↓zCm_I, zMg_vw]
  obtain rfl : kd = 7 := by omega
  have w := a2 (by omega)
  have o := a3 rfl
  have hF := hi.1 who.toNat (by omega)
  rw [Int.toNat_of_nonneg w.1] at hF
  have hG := hi.1 ot.toNat (by omega)
  rw [Int.toNat_of_nonneg o.1] at hG
  have c1 := (hr.1 who w.1 w.2).1
  have c2 := (hr.1 ot o.1 o.2.1).1
  have h1 : F_Register_canHandOver who ot sum (zVw plR μ) = some (.inr (some (zI (q_cmv who ot sum s))), zVw plR μ) := by
    have f1 := r_hasFailed hr w.1 w.2
    have f2 := r_hasFailed hr o.1 o.2.1
    unfold F_Register_canHandOver q_cmv
    by_cases z1 : s (5 * who) ≤ sum
    · simp (disch := omega) only [Int.add_zero, Int.mul_zero, Int.reduceMul, Int.reduceAdd, Int.mul_one, Int.tdiv_eq_ediv_of_nonneg, Int.tmod_eq_emod_of_nonneg, ↓reduceIte, ↓zLet_eq, ↓zRd_ok, ↓zWr_ok, ↓zC_V, ↓zC_I, ↓zC_J, zUp_at, zUp_ne, q_up_at, q_up_ne, w32_of, w64_of, q_le_T, q_le_F, q_lt_T, q_lt_F, q_eq_T, q_eq_F, true_or, or_true, or_false, false_or, false_and, and_false, and_self, implies_true, true_and, and_true, ne_eq, not_true_eq_false, not_false_eq_true, false_implies, true_implies, c1]
    · by_cases z2 : 9999 < s (5 * ot) + sum
      · simp (disch := omega) only [Int.add_zero, Int.mul_zero, Int.reduceMul, Int.reduceAdd, Int.mul_one, Int.tdiv_eq_ediv_of_nonneg, Int.tmod_eq_emod_of_nonneg, ↓reduceIte, ↓zLet_eq, ↓zRd_ok, ↓zWr_ok, ↓zC_V, ↓zC_I, ↓zC_J, zUp_at, zUp_ne, q_up_at, q_up_ne, w32_of, w64_of, q_le_T, q_le_F, q_lt_T, q_lt_F, q_eq_T, q_eq_F, true_or, or_true, or_false, false_or, false_and, and_false, and_self, implies_true, true_and, and_true, ne_eq, not_true_eq_false, not_false_eq_true, false_implies, true_implies, c1, c2]
      · by_cases z3 : s (5 * who + 4) = 1
        · rw [if_pos z3] at f1
          simp (disch := omega) only [Int.add_zero, Int.mul_zero, Int.reduceMul, Int.reduceAdd, Int.mul_one, Int.tdiv_eq_ediv_of_nonneg, Int.tmod_eq_emod_of_nonneg, ↓reduceIte, ↓zLet_eq, ↓zRd_ok, ↓zWr_ok, ↓zC_V, ↓zC_I, ↓zC_J, zUp_at, zUp_ne, q_up_at, q_up_ne, w32_of, w64_of, q_le_T, q_le_F, q_lt_T, q_lt_F, q_eq_T, q_eq_F, true_or, or_true, or_false, false_or, false_and, and_false, and_self, implies_true, true_and, and_true, ne_eq, not_true_eq_false, not_false_eq_true, false_implies, true_implies, c1, c2, f1]
        · rw [if_neg z3] at f1
          by_cases z4 : s (5 * ot + 4) = 1
          · rw [if_pos z4] at f2
            simp (disch := omega) only [Int.add_zero, Int.mul_zero, Int.reduceMul, Int.reduceAdd, Int.mul_one, Int.tdiv_eq_ediv_of_nonneg, Int.tmod_eq_emod_of_nonneg, ↓reduceIte, ↓zLet_eq, ↓zRd_ok, ↓zWr_ok, ↓zC_V, ↓zC_I, ↓zC_J, zUp_at, zUp_ne, q_up_at, q_up_ne, w32_of, w64_of, q_le_T, q_le_F, q_lt_T, q_lt_F, q_eq_T, q_eq_F, true_or, or_true, or_false, false_or, false_and, and_false, and_self, implies_true, true_and, and_true, ne_eq, not_true_eq_false, not_false_eq_true, false_implies, true_implies, c1, c2, f1, f2]
          · rw [if_neg z4] at f2
            simp (disch := omega) only [Int.add_zero, Int.mul_zero, Int.reduceMul, Int.reduceAdd, Int.mul_one, Int.tdiv_eq_ediv_of_nonneg, Int.tmod_eq_emod_of_nonneg, ↓reduceIte, ↓zLet_eq, ↓zRd_ok, ↓zWr_ok, ↓zC_V, ↓zC_I, ↓zC_J, zUp_at, zUp_ne, q_up_at, q_up_ne, w32_of, w64_of, q_le_T, q_le_F, q_lt_T, q_lt_F, q_eq_T, q_eq_F, true_or, or_true, or_false, false_or, false_and, and_false, and_self, implies_true, true_and, and_true, ne_eq, not_true_eq_false, not_false_eq_true, false_implies, true_implies, c1, c2, f1, f2]
  have hcm : q_cmv who ot sum s = 0 ∨ q_cmv who ot sum s = 1 := q_ite01 (Or.inl rfl) (q_ite01 (Or.inl rfl) (q_ite01 (Or.inr rfl) (Or.inl rfl)))
  simp (disch := omega) only [Int.add_zero, Int.mul_zero, Int.reduceMul, Int.reduceAdd, Int.mul_one, Int.tdiv_eq_ediv_of_nonneg, Int.tmod_eq_emod_of_nonneg, ↓reduceIte, ↓zLet_eq, ↓zRd_ok, ↓zWr_ok, ↓zC_V, ↓zC_I, ↓zC_J, zUp_at, zUp_ne, q_up_at, q_up_ne, w32_of, w64_of, q_le_T, q_le_F, q_lt_T, q_lt_F, q_eq_T, q_eq_F, true_or, or_true, or_false, false_or, false_and, and_false, and_self, implies_true, true_and, and_true, ne_eq, not_true_eq_false, not_false_eq_true, false_implies, true_implies, h1, ↓zCm_I, zMg_vw, if_pos hcm]
theorem b_bk.vw {dl : Nat} {tm s : Int → Int} {μ μ' : ZMem} (h : b_bk dl tm s (zVw plB μ)) (e1 : μ' 1 = μ 1) (e2 : μ' 2 = μ 2) (e3 : μ' 3 = μ 3) (e4 : μ' 4 = μ 4) (e5 : μ' 5 = μ 5) : b_bk dl tm s (zVw plB μ') := h.cong e1 e2 e3 e4 e5
theorem r_rg.vw {m : Nat} {ex s : Int → Int} {μ μ' : ZMem} (h : r_rg m ex s (zVw plR μ)) (e7 : μ' 7 = μ 7) (e8 : μ' 8 = μ 8) (e9 : μ' 9 = μ 9) (e10 : μ' 10 = μ 10) (e12 : μ' 12 = μ 12) : r_rg m ex s (zVw plR μ') := h.cong e7 e8 e9 e10 e12
