/-! ===== faces: multiple, curve, curves, rate ===== -/
abbrev plT : List Nat := [29, 30, 31]
section FM
variable {m dl a : Nat} {B d sum : Int} {ex s : Int → Int} {κ μ ν : ZMem} {x y z : Int}
theorem zfdiv_ok {p q : UInt32} {K : UInt32 → Option ZRes} (h : zn32 (FP.fdiv p q) = true) : zfdiv p q K = K (FP.fdiv p q) := if_pos h
theorem zfmul_ok {p q : UInt32} {K : UInt32 → Option ZRes} (h : zn32 (FP.fmul p q) = true) : zfmul p q K = K (FP.fmul p q) := if_pos h
theorem zddiv_ok {p q : UInt64} {K : UInt64 → Option ZRes} (h : zn64 (FP.ddiv p q) = true) : zddiv p q K = K (FP.ddiv p q) := if_pos h
theorem zdadd_ok {p q : UInt64} {K : UInt64 → Option ZRes} (h : zn64 (FP.dadd p q) = true) : zdadd p q K = K (FP.dadd p q) := if_pos h
def q_of (x : Int) (f : Int → Int) (m : Nat) : Int := if x = -1 then q_sm f m else f x
theorem q_of_sm {f : Int → Int} (hx : x = -1 ∨ (0 ≤ x ∧ x < m)) : q_sm (fun i => if x = -1 ∨ i = x then f i else 0) m = q_of x f m := by
  unfold q_of
  by_cases e : x = -1
  · rw [if_pos e]
    exact q_sm_congr (fun i _ => if_pos (Or.inl e))
  · rw [if_neg e, q_sm_congr (g := fun i => if i = x then f i else 0) (fun i _ => by
      by_cases h : (i : Int) = x
      · rw [if_pos (Or.inr h), if_pos h]
      · rw [if_neg (by omega), if_neg h])]
    exact q_sm_single (by omega) (by omega)
theorem m_multiple_loop (hm : μ 0 5 = m) (h6 : m ≤ 6) (hx : x = -1 ∨ (0 ≤ x ∧ x < m)) (K : Int → Int → Option ZRes) : L_Model_multiple_44 x μ K zN 0 0 0 = K (q_of x (fun i => μ 5 (5 * i + 3)) m) (q_of x (fun i => μ 5 (5 * i + 2)) m) := by
  rw [← q_of_sm hx, ← q_of_sm hx]
  obtain ⟨⟨u, v, w⟩, e, j, hw, hj, hu, hv⟩ := q_loop (L := fun n (b : Int × Int × Int) => L_Model_multiple_44 x μ K n b.1 b.2.1 b.2.2) (P := fun i b => ∃ j : Nat, b.2.2 = j ∧ j + i = m ∧ b.1 = q_sm (fun i => if x = -1 ∨ i = x then μ 5 (5 * i + 3) else 0) j ∧ b.2.1 = q_sm (fun i => if x = -1 ∨ i = x then μ 5 (5 * i + 2) else 0) j) (fun n i b hb => by
      obtain ⟨u, v, w⟩ := b
      obtain ⟨j, rfl, hj, rfl, rfl⟩ := hb
      simp only []
      refine ⟨(q_sm (fun i => if x = -1 ∨ i = x then μ 5 (5 * i + 3) else 0) (j + 1), q_sm (fun i => if x = -1 ∨ i = x then μ 5 (5 * i + 2) else 0) (j + 1), (j : Int) + 1), ?_, j + 1, rfl, by omega, rfl, rfl⟩
      have e1 : q_sm (fun i => if x = -1 ∨ i = x then μ 5 (5 * i + 3) else 0) (j + 1) = q_sm (fun i => if x = -1 ∨ i = x then μ 5 (5 * i + 3) else 0) j + (if x = -1 ∨ (j : Int) = x then μ 5 (5 * j + 3) else 0) := rfl
      have e2 : q_sm (fun i => if x = -1 ∨ i = x then μ 5 (5 * i + 2) else 0) (j + 1) = q_sm (fun i => if x = -1 ∨ i = x then μ 5 (5 * i + 2) else 0) j + (if x = -1 ∨ (j : Int) = x then μ 5 (5 * j + 2) else 0) := rfl
      rw [e1, e2, L_Model_multiple_44]
      generalize q_sm (fun i => if x = -1 ∨ i = x then μ 5 (5 * i + 3) else 0) j = A
      generalize q_sm (fun i => if x = -1 ∨ i = x then μ 5 (5 * i + 2) else 0) j = Bq
      by_cases c1 : x = -1
      · rw [if_pos (Or.inl c1), if_pos (Or.inl c1)]
        simp (disch := omega) only [J_Model_multiple_67, J_Model_multiple_97, Int.add_zero, Int.mul_zero, Int.reduceMul, Int.reduceAdd, Int.mul_one, Int.tdiv_eq_ediv_of_nonneg, Int.tmod_eq_emod_of_nonneg, ↓reduceIte, ↓zLet_eq, ↓zRd_ok, ↓zWr_ok, ↓zC_V, ↓zC_I, ↓zC_J, zUp_at, zUp_ne, q_up_at, q_up_ne, w32_of, w64_of, q_le_T, q_le_F, q_lt_T, q_lt_F, q_eq_T, q_eq_F, true_or, or_true, or_false, false_or, false_and, and_false, m_placeOf]
      · by_cases c2 : (j : Int) = x
        · rw [if_pos (Or.inr c2), if_pos (Or.inr c2)]
          simp (disch := omega) only [J_Model_multiple_67, J_Model_multiple_97, Int.add_zero, Int.mul_zero, Int.reduceMul, Int.reduceAdd, Int.mul_one, Int.tdiv_eq_ediv_of_nonneg, Int.tmod_eq_emod_of_nonneg, ↓reduceIte, ↓zLet_eq, ↓zRd_ok, ↓zWr_ok, ↓zC_V, ↓zC_I, ↓zC_J, zUp_at, zUp_ne, q_up_at, q_up_ne, w32_of, w64_of, q_le_T, q_le_F, q_lt_T, q_lt_F, q_eq_T, q_eq_F, true_or, or_true, or_false, false_or, false_and, and_false, m_placeOf]
        · have c3 : ¬ (x = -1 ∨ (j : Int) = x) := fun h => h.elim c1 c2
          rw [if_neg c3, if_neg c3]
          simp (disch := omega) only [J_Model_multiple_97, Int.add_zero, Int.mul_zero, Int.reduceMul, Int.reduceAdd, Int.mul_one, Int.tdiv_eq_ediv_of_nonneg, Int.tmod_eq_emod_of_nonneg, ↓reduceIte, ↓zLet_eq, ↓zRd_ok, ↓zWr_ok, ↓zC_V, ↓zC_I, ↓zC_J, zUp_at, zUp_ne, q_up_at, q_up_ne, w32_of, w64_of, q_le_T, q_le_F, q_lt_T, q_lt_F, q_eq_T, q_eq_F, true_or, or_true, or_false, false_or, false_and, and_false]) m zN (0, 0, 0) ⟨0, rfl, by omega, rfl, rfl⟩ (Nat.le_of_lt (zN_gt (by omega)))
  simp only [] at e hw hu hv
  obtain rfl : j = m := by omega
  rw [e, hw, hu, hv]
  obtain ⟨n, hn⟩ : ∃ n, zN - j = n + 1 := ⟨zN - j - 1, by have := zN_gt (m := j) (by omega); omega⟩
  rw [hn, L_Model_multiple_44, hm, if_pos (Int.le_refl _)]
theorem face_multiple (h : z_rest m dl a κ μ) (hx : q_i32 x) : z_face [(eIOB, 1)] m dl a κ μ (F_Ledger_multiple x κ) (F_Model_multiple x μ) := by
  obtain ⟨hf, h6, hdl, ht, ⟨m5, m6, m11, ha⟩, ⟨k3, k4, k11⟩, hi, hq, hs⟩ := h.all
  obtain ⟨M, C⟩ := h
  have hr : r_rg m (μ 4) (μ 5) (zVw plNR κ) := hs.1.2
  have hgot : ∀ i : Int, 0 ≤ i → i < m → κ 24 i = μ 5 (5 * i + 3) := hs.2.2.1
  have hten : κ 20 10 = q_sm (fun i => μ 5 (5 * i + 3)) m := hr.2.2.2.2.2
  have e5 : zUp μ 0 0 0 5 = μ 5 := zUp_ne (by decide)
  have hxx := hx
  obtain ⟨x1, x2⟩ := hxx
  by_cases gx : x = -1 ∨ (0 ≤ x ∧ x < m)
  · have pb : 0 ≤ q_of x (fun i => μ 5 (5 * i + 2)) m ∧ q_of x (fun i => μ 5 (5 * i + 2)) m ≤ 6 * (100000 * (6 * a + 2 * μ 5 90)) := by
      unfold q_of
      by_cases e : x = -1
      · rw [if_pos e]
        exact ⟨q_sm_nonneg (fun i hi' => (hi.1 i hi').2.2.1.1), q_sm_bd6 h6 (by omega) (fun i hi' => (hi.1 i hi').2.2.1.2)⟩
      · rw [if_neg e]
        have := hi.1 x.toNat (by omega)
        rw [Int.toNat_of_nonneg (by omega)] at this
        simp only []
        omega
    have eC : F_Ledger_multiple x κ = J_Ledger_multiple_93 (q_of x (fun i => μ 5 (5 * i + 3)) m) (q_of x (fun i => μ 5 (5 * i + 2)) m) κ := by
      unfold F_Ledger_multiple J_Ledger_multiple_21 J_Ledger_multiple_51
      by_cases e : x = -1
      · have ea := r_allOf3 hr hi.1 h6 (by omega) (by omega)
        have eG : q_of x (fun i => μ 5 (5 * i + 3)) m = κ 20 10 := (if_pos e).trans hten.symm
        have eP : q_of x (fun i => μ 5 (5 * i + 2)) m = q_sm (fun i => μ 5 (5 * i + 2)) m := if_pos e
        rw [eG, eP]
        rw [w32_of x1 x2, w32_of (by decide) (by decide), if_pos e, if_pos e, if_pos e, ea, zCm_J, zMg_vw]
      · have eX := kY_inv k3 h6 (x := x) (by omega) (by omega)
        have eG : q_of x (fun i => μ 5 (5 * i + 3)) m = κ 24 x := (if_neg e).trans (hgot x (by omega) (by omega)).symm
        have hp : κ 23 x = μ 5 (5 * x + 2) := (hr.1 x (by omega) (by omega)).2.2
        have eP : q_of x (fun i => μ 5 (5 * i + 2)) m = κ 23 x := (if_neg e).trans hp.symm
        have := hi.1 x.toNat (by omega)
        rw [Int.toNat_of_nonneg (by omega)] at this
        rw [eG, eP]
        simp (disch := omega) only [Int.add_zero, Int.mul_zero, Int.reduceMul, Int.reduceAdd, Int.mul_one, Int.tdiv_eq_ediv_of_nonneg, Int.tmod_eq_emod_of_nonneg, ↓reduceIte, ↓zLet_eq, ↓zRd_ok, ↓zWr_ok, ↓zC_V, ↓zC_I, ↓zC_J, zUp_at, zUp_ne, q_up_at, q_up_ne, w32_of, w64_of, q_le_T, q_le_F, q_lt_T, q_lt_F, q_eq_T, q_eq_F, true_or, or_true, or_false, false_or, false_and, and_false, eX]
    have em := m_multiple_loop (μ := zUp μ 0 0 0) (m := m) (x := x) (by rw [zUp_at, q_up_ne (by decide)]; exact m5) h6 gx (fun k13 k14 => if w64 k14 = w64 0 then (some (.inr (some (zI (-1))), zUp μ 0 0 0)) else (zfdiv (zl2f k13) (zl2f k14) (fun d15 => zfmul d15 (1148846080 : UInt32) (fun d16 => some (.inr (some (zI (zf2i d16))), zUp μ 0 0 0)))))
    rw [e5] at em
    have eM : F_Model_multiple x μ = (if w64 (q_of x (fun i => μ 5 (5 * i + 2)) m) = w64 0 then (some (.inr (some (zI (-1))), zUp μ 0 0 0)) else (zfdiv (zl2f (q_of x (fun i => μ 5 (5 * i + 3)) m)) (zl2f (q_of x (fun i => μ 5 (5 * i + 2)) m)) (fun d15 => zfmul d15 (1148846080 : UInt32) (fun d16 => some (.inr (some (zI (zf2i d16))), zUp μ 0 0 0))))) := by
      unfold F_Model_multiple J_Model_multiple_24
      rw [w32_of x1 x2, w32_of (by omega) (by omega), z_isInY (by omega) (by omega) (by decide) (by omega), zC_I, w32_of (by decide) (by decide), if_neg (by decide), zLet_eq, zUp_at, q_up_at, w32_of (by decide) (by decide), if_pos (by decide)]
      exact em
    rw [eC, eM]
    generalize q_of x (fun i => μ 5 (5 * i + 3)) m = G at *
    generalize q_of x (fun i => μ 5 (5 * i + 2)) m = P at *
    unfold J_Ledger_multiple_93
    by_cases hP : P = 0
    · subst hP
      exact z_face.ok0 (v := zI (-1)) M (if_pos rfl) (if_pos rfl) (c_fr.rf κ)
    · have hne : ¬ w64 P = w64 0 := by rw [w64_of (by omega) (by omega), w64_of (by decide) (by decide)]; exact hP
      have hz : Int64.ofInt P ≠ 0 := fun e => hne (by unfold w64; rw [e]; rfl)
      have h1 : zn32 (FP.fdiv (zl2f G) (zl2f P)) = true := decide_eq_true (fq_fdiv (fq_fin32 (fq_l2f _)) (fq_l2f _) (fq_l2f_nz hz))
      have h2 : zn32 (FP.fmul (FP.fdiv (zl2f G) (zl2f P)) 1148846080) = true := decide_eq_true (fq_fmul (of_decide_eq_true h1) (by decide) (by decide))
      refine z_face.ok0 (v := zI (zf2i (FP.fmul (FP.fdiv (zl2f G) (zl2f P)) 1148846080))) M ?_ ?_ (c_fr.rf κ)
      · rw [if_neg hne, zfdiv_ok h1, zfmul_ok h2]
      · rw [if_neg hne, zfdiv_ok h1, zfmul_ok h2]
  · refine z_face.th (v := zI 0) (E := eIOB) (n := 1) M ?_ ?_ (by decide) (by decide +kernel)
    · have eX := kN_inv k3 h6 hx (by omega)
      unfold F_Ledger_multiple
      simp (disch := omega) only [Int.add_zero, Int.mul_zero, Int.reduceMul, Int.reduceAdd, Int.mul_one, Int.tdiv_eq_ediv_of_nonneg, Int.tmod_eq_emod_of_nonneg, ↓reduceIte, ↓zLet_eq, ↓zRd_ok, ↓zWr_ok, ↓zC_V, ↓zC_I, ↓zC_J, zUp_at, zUp_ne, q_up_at, q_up_ne, w32_of, w64_of, q_le_T, q_le_F, q_lt_T, q_lt_F, q_eq_T, q_eq_F, true_or, or_true, or_false, false_or, false_and, and_false, eX]
    · unfold F_Model_multiple J_Model_multiple_24
      simp (disch := omega) only [Int.add_zero, Int.mul_zero, Int.reduceMul, Int.reduceAdd, Int.mul_one, Int.tdiv_eq_ediv_of_nonneg, Int.tmod_eq_emod_of_nonneg, ↓reduceIte, ↓zLet_eq, ↓zRd_ok, ↓zWr_ok, ↓zC_V, ↓zC_I, ↓zC_J, zUp_at, zUp_ne, q_up_at, q_up_ne, w32_of, w64_of, q_le_T, q_le_F, q_lt_T, q_lt_F, q_eq_T, q_eq_F, true_or, or_true, or_false, false_or, false_and, and_false, z_isInN]
/-- what came in less what was paid, in a quarter: of one investor, of all -/
def q_nw (m : Nat) (p g : Int → Int) (x q : Int) : Int := q_of x (fun i => g (201 * i + q) - p (201 * i + q)) m
theorem m_flowIn {q : Int} (hm : μ 0 5 = m) (h6 : m ≤ 6) (hx : x = -1 ∨ (0 ≤ x ∧ x < m)) (q0 : 0 ≤ q) (q1 : q < 201) : F_Model_flowIn x q μ = some (.inr (some (zJ (q_nw m (μ 6) (μ 7) x q))), μ) := by
  unfold F_Model_flowIn q_nw
  rw [← q_of_sm hx]
  refine q_acc (L := fun n a j => L_Model_flowIn_5 x q μ (fun k5 => some (.inr (some (zJ k5)), μ)) n a j) (K := fun k5 => some (.inr (some (zJ k5)), μ)) (fun n a j hj => ?_) (fun n a => ?_) (zN_gt (by omega))
  · simp only [L_Model_flowIn_5]
    by_cases c1 : x = -1
    · rw [if_pos (Or.inl c1)]
      simp (disch := omega) only [J_Model_flowIn_25, J_Model_flowIn_55, Int.add_zero, Int.mul_zero, Int.reduceMul, Int.reduceAdd, Int.mul_one, Int.tdiv_eq_ediv_of_nonneg, Int.tmod_eq_emod_of_nonneg, ↓reduceIte, ↓zLet_eq, ↓zRd_ok, ↓zWr_ok, ↓zC_V, ↓zC_I, ↓zC_J, zUp_at, zUp_ne, q_up_at, q_up_ne, w32_of, w64_of, q_le_T, q_le_F, q_lt_T, q_lt_F, q_eq_T, q_eq_F, true_or, or_true, or_false, false_or, false_and, and_false]
    · by_cases c2 : (j : Int) = x
      · rw [if_pos (Or.inr c2)]
        simp (disch := omega) only [J_Model_flowIn_25, J_Model_flowIn_55, Int.add_zero, Int.mul_zero, Int.reduceMul, Int.reduceAdd, Int.mul_one, Int.tdiv_eq_ediv_of_nonneg, Int.tmod_eq_emod_of_nonneg, ↓reduceIte, ↓zLet_eq, ↓zRd_ok, ↓zWr_ok, ↓zC_V, ↓zC_I, ↓zC_J, zUp_at, zUp_ne, q_up_at, q_up_ne, w32_of, w64_of, q_le_T, q_le_F, q_lt_T, q_lt_F, q_eq_T, q_eq_F, true_or, or_true, or_false, false_or, false_and, and_false]
      · have c3 : ¬ (x = -1 ∨ (j : Int) = x) := fun h => h.elim c1 c2
        rw [if_neg c3]
        simp (disch := omega) only [J_Model_flowIn_55, Int.add_zero, Int.mul_zero, Int.reduceMul, Int.reduceAdd, Int.mul_one, Int.tdiv_eq_ediv_of_nonneg, Int.tmod_eq_emod_of_nonneg, ↓reduceIte, ↓zLet_eq, ↓zRd_ok, ↓zWr_ok, ↓zC_V, ↓zC_I, ↓zC_J, zUp_at, zUp_ne, q_up_at, q_up_ne, w32_of, w64_of, q_le_T, q_le_F, q_lt_T, q_lt_F, q_eq_T, q_eq_F, true_or, or_true, or_false, false_or, false_and, and_false]
  · simp (disch := omega) only [L_Model_flowIn_5, Int.add_zero, Int.mul_zero, Int.reduceMul, Int.reduceAdd, Int.mul_one, Int.tdiv_eq_ediv_of_nonneg, Int.tmod_eq_emod_of_nonneg, ↓reduceIte, ↓zLet_eq, ↓zRd_ok, ↓zWr_ok, ↓zC_V, ↓zC_I, ↓zC_J, zUp_at, zUp_ne, q_up_at, q_up_ne, w32_of, w64_of, q_le_T, q_le_F, q_lt_T, q_lt_F, q_eq_T, q_eq_F, true_or, or_true, or_false, false_or, false_and, and_false]
theorem m_curveAt {q : Nat} (hm : μ 0 5 = m) (h6 : m ≤ 6) (q1 : q < 201) : F_Model_curveAt q μ = some (.inr (some (zJ (q_sm (q_nw m (μ 6) (μ 7) (-1)) (q + 1)))), μ) := by
  unfold F_Model_curveAt
  refine q_acc (L := fun n a j => L_Model_curveAt_5 q (fun k6 μ5 => some (.inr (some (zJ k6)), μ5)) n a j μ) (f := q_nw m (μ 6) (μ 7) (-1)) (K := fun k6 => some (.inr (some (zJ k6)), μ)) (fun n a j hj => ?_) (fun n a => ?_) (zN_gt (by omega))
  · have e := m_flowIn (μ := μ) (q := j) (x := -1) hm h6 (Or.inl rfl) (by omega) (by omega)
    simp (disch := omega) only [L_Model_curveAt_5, Int.add_zero, Int.mul_zero, Int.reduceMul, Int.reduceAdd, Int.mul_one, Int.tdiv_eq_ediv_of_nonneg, Int.tmod_eq_emod_of_nonneg, ↓reduceIte, ↓zLet_eq, ↓zRd_ok, ↓zWr_ok, ↓zC_V, ↓zC_I, ↓zC_J, zUp_at, zUp_ne, q_up_at, q_up_ne, w32_of, w64_of, q_le_T, q_le_F, q_lt_T, q_lt_F, q_eq_T, q_eq_F, true_or, or_true, or_false, false_or, false_and, and_false, e]
  · simp (disch := omega) only [L_Model_curveAt_5, Int.add_zero, Int.mul_zero, Int.reduceMul, Int.reduceAdd, Int.mul_one, Int.tdiv_eq_ediv_of_nonneg, Int.tmod_eq_emod_of_nonneg, ↓reduceIte, ↓zLet_eq, ↓zRd_ok, ↓zWr_ok, ↓zC_V, ↓zC_I, ↓zC_J, zUp_at, zUp_ne, q_up_at, q_up_ne, w32_of, w64_of, q_le_T, q_le_F, q_lt_T, q_lt_F, q_eq_T, q_eq_F, true_or, or_true, or_false, false_or, false_and, and_false]
theorem k_flow {i q : Int} (i0 : 0 ≤ i) (i1 : i < 7) (q0 : 0 ≤ q) (q1 : q < 201) : F_Trace_flow i q ν = some (.inr (some (zJ (ν 1 (i * 201 + q)))), ν) := by
  unfold F_Trace_flow
  simp (disch := omega) only [Int.add_zero, Int.mul_zero, Int.reduceMul, Int.reduceAdd, Int.mul_one, Int.tdiv_eq_ediv_of_nonneg, Int.tmod_eq_emod_of_nonneg, ↓reduceIte, ↓zLet_eq, ↓zRd_ok, ↓zWr_ok, ↓zC_V, ↓zC_I, ↓zC_J, zUp_at, zUp_ne, q_up_at, q_up_ne, w32_of, w64_of, q_le_T, q_le_F, q_lt_T, q_lt_F, q_eq_T, q_eq_F, true_or, or_true, or_false, false_or, false_and, and_false]
theorem k_net (hs : s_T m dl (μ 2) ex (μ 5, μ 6, μ 7, s) (zVw plN κ)) (h6 : m ≤ 6) (hx : x = -1 ∨ (0 ≤ x ∧ x < m)) {q : Int} (q0 : 0 ≤ q) (q1 : q < 201) : κ 30 ((if x = -1 then 6 else x) * 201 + q) = q_nw m (μ 6) (μ 7) x q := by
  unfold q_nw q_of
  by_cases e : x = -1
  · rw [if_pos e, if_pos e]
    exact hs.2.2.2.2.1 q q0 q1
  · rw [if_neg e, if_neg e]
    exact hs.2.2.2.1 x q (by omega) (by omega) q0 q1
theorem face_curve (h : z_rest m dl a κ μ) (hx : q_i32 x) : z_face [(eIAE, 1)] m dl a κ μ (F_Ledger_curve x κ) (F_Model_curve x μ) := by
  obtain ⟨hf, h6, hdl, ht, ⟨m5, m6, m11, ha⟩, ⟨k3, k4, k11⟩, hi, hq, hs⟩ := h.all
  obtain ⟨M, C⟩ := h
  have hb : b_bk dl (μ 2) (μ 5) (zVw plNB κ) := hs.1.1
  have e6 : κ 14 6 = μ 5 90 := hb.2.2.2.2.2.2.1
  have w6 : zUp μ 0 0 0 6 = μ 6 := zUp_ne (by decide)
  have w7 : zUp μ 0 0 0 7 = μ 7 := zUp_ne (by decide)
  obtain ⟨x1, x2⟩ := hx
  by_cases gx : 0 ≤ x ∧ x ≤ μ 5 90
  · obtain ⟨k, rfl⟩ := Int.eq_ofNat_of_zero_le gx.1
    have em := m_curveAt (μ := zUp μ 0 0 0) (m := m) (q := k) (by rw [zUp_at, q_up_ne (by decide)]; exact m5) h6 (by omega)
    rw [w6, w7] at em
    refine z_face.ok0 (v := zJ (q_sm (q_nw m (μ 6) (μ 7) (-1)) (k + 1))) M ?_ ?_ (c_fr.rf κ)
    · unfold F_Ledger_curve
      rw [w32_of x1 x2, if_neg (by omega), e6, w32_of (by omega) (by omega), if_pos gx.2]
      refine q_acc (L := fun n a j => L_Ledger_curve_31 k (fun k6 μ5 => some (.inr (some (zJ k6)), μ5)) n a j κ) (f := q_nw m (μ 6) (μ 7) (-1)) (K := fun k6 => some (.inr (some (zJ k6)), κ)) (fun n a j hj => ?_) (fun n a => ?_) (zN_gt (by omega))
      · have e := k_flow (ν := zVw plT κ) (i := 6) (q := j) (by decide) (by decide) (by omega) (by omega)
        have en : zVw plT κ 1 (6 * 201 + (j : Int)) = q_nw m (μ 6) (μ 7) (-1) j := k_net (x := -1) hs h6 (Or.inl rfl) (by omega) (by omega)
        rw [en] at e
        simp (disch := omega) only [L_Ledger_curve_31, Int.add_zero, Int.mul_zero, Int.reduceMul, Int.reduceAdd, Int.mul_one, Int.tdiv_eq_ediv_of_nonneg, Int.tmod_eq_emod_of_nonneg, ↓reduceIte, ↓zLet_eq, ↓zRd_ok, ↓zWr_ok, ↓zC_V, ↓zC_I, ↓zC_J, zUp_at, zUp_ne, q_up_at, q_up_ne, w32_of, w64_of, q_le_T, q_le_F, q_lt_T, q_lt_F, q_eq_T, q_eq_F, true_or, or_true, or_false, false_or, false_and, and_false, e, ↓zCm_J, zMg_vw]
      · simp (disch := omega) only [L_Ledger_curve_31, Int.add_zero, Int.mul_zero, Int.reduceMul, Int.reduceAdd, Int.mul_one, Int.tdiv_eq_ediv_of_nonneg, Int.tmod_eq_emod_of_nonneg, ↓reduceIte, ↓zLet_eq, ↓zRd_ok, ↓zWr_ok, ↓zC_V, ↓zC_I, ↓zC_J, zUp_at, zUp_ne, q_up_at, q_up_ne, w32_of, w64_of, q_le_T, q_le_F, q_lt_T, q_lt_F, q_eq_T, q_eq_F, true_or, or_true, or_false, false_or, false_and, and_false]
    · unfold F_Model_curve J_Model_curve_22
      simp (disch := omega) only [Int.add_zero, Int.mul_zero, Int.reduceMul, Int.reduceAdd, Int.mul_one, Int.tdiv_eq_ediv_of_nonneg, Int.tmod_eq_emod_of_nonneg, ↓reduceIte, ↓zLet_eq, ↓zRd_ok, ↓zWr_ok, ↓zC_V, ↓zC_I, ↓zC_J, zUp_at, zUp_ne, q_up_at, q_up_ne, w32_of, w64_of, q_le_T, q_le_F, q_lt_T, q_lt_F, q_eq_T, q_eq_F, true_or, or_true, or_false, false_or, false_and, and_false, z_isInY, em]
  · refine z_face.th (v := zJ 0) (E := eIAE) (n := 1) M ?_ ?_ (by decide) (by decide +kernel)
    · unfold F_Ledger_curve J_Ledger_curve_18
      by_cases h0 : x < 0
      · simp (disch := omega) only [Int.add_zero, Int.mul_zero, Int.reduceMul, Int.reduceAdd, Int.mul_one, Int.tdiv_eq_ediv_of_nonneg, Int.tmod_eq_emod_of_nonneg, ↓reduceIte, ↓zLet_eq, ↓zRd_ok, ↓zWr_ok, ↓zC_V, ↓zC_I, ↓zC_J, zUp_at, zUp_ne, q_up_at, q_up_ne, w32_of, w64_of, q_le_T, q_le_F, q_lt_T, q_lt_F, q_eq_T, q_eq_F, true_or, or_true, or_false, false_or, false_and, and_false]
      · simp (disch := omega) only [Int.add_zero, Int.mul_zero, Int.reduceMul, Int.reduceAdd, Int.mul_one, Int.tdiv_eq_ediv_of_nonneg, Int.tmod_eq_emod_of_nonneg, ↓reduceIte, ↓zLet_eq, ↓zRd_ok, ↓zWr_ok, ↓zC_V, ↓zC_I, ↓zC_J, zUp_at, zUp_ne, q_up_at, q_up_ne, w32_of, w64_of, q_le_T, q_le_F, q_lt_T, q_lt_F, q_eq_T, q_eq_F, true_or, or_true, or_false, false_or, false_and, and_false]
    · unfold F_Model_curve J_Model_curve_22
      simp (disch := omega) only [Int.add_zero, Int.mul_zero, Int.reduceMul, Int.reduceAdd, Int.mul_one, Int.tdiv_eq_ediv_of_nonneg, Int.tmod_eq_emod_of_nonneg, ↓reduceIte, ↓zLet_eq, ↓zRd_ok, ↓zWr_ok, ↓zC_V, ↓zC_I, ↓zC_J, zUp_at, zUp_ne, q_up_at, q_up_ne, w32_of, w64_of, q_le_T, q_le_F, q_lt_T, q_lt_F, q_eq_T, q_eq_F, true_or, or_true, or_false, false_or, false_and, and_false, z_isInN]
end FM
