/-! ===== face: reaches ===== -/
section FG
variable {m dl a : Nat} {B d sum : Int} {κ μ : ZMem} {x y z : Int}
/-- the least of 0..100000 that reaches y, by a growing function -/
def q_lst (h : Int → Int) (y r : Int) : Prop := 0 ≤ r ∧ r ≤ 100000 ∧ (∀ w, 0 ≤ w → w < r → h w < y) ∧ (r = 100000 ∨ y ≤ h r)
theorem q_lst.uniq {h : Int → Int} {y r r' : Int} (a : q_lst h y r) (b : q_lst h y r') : r = r' := by
  obtain ⟨a0, a1, a2, a3⟩ := a
  obtain ⟨b0, b1, b2, b3⟩ := b
  rcases Int.lt_trichotomy r r' with l | l | l
  · have := b2 r a0 l
    omega
  · exact l
  · have := a2 r' b0 l
    omega
theorem m_hersOf {A cx : Int} (ht : q_tm (μ 2)) (hA0 : -10000000000000 ≤ A) (hA1 : A ≤ 1000000) (hc0 : 0 ≤ cx) (hc1 : cx ≤ 1000000000000) : F_Model_hersOf A cx μ = some (.inr (some (zJ (q_he (μ 2) A cx))), μ) := by
  obtain ⟨-, ⟨t1, t2⟩, ⟨t3, t4⟩, -⟩ := ht
  unfold F_Model_hersOf q_he
  by_cases h0 : 0 < A
  · have hq := q_min_le A cx
    have hq0 := q_min_nn (a := A) (b := cx) (by omega) hc0
    have p1 := q_mb t1 t2 hq0 (show q_min A cx ≤ 1000000 by omega)
    have p2 := q_mb t3 t4 (show 0 ≤ A - q_min A cx by omega) (show A - q_min A cx ≤ 1000000 by omega)
    simp (disch := omega) only [Int.add_zero, Int.mul_zero, Int.reduceMul, Int.reduceAdd, Int.mul_one, Int.tdiv_eq_ediv_of_nonneg, Int.tmod_eq_emod_of_nonneg, ↓reduceIte, ↓zLet_eq, ↓zRd_ok, ↓zWr_ok, ↓zC_V, ↓zC_I, ↓zC_J, zUp_at, zUp_ne, q_up_at, q_up_ne, w32_of, w64_of, q_le_T, q_le_F, q_lt_T, q_lt_F, q_eq_T, q_eq_F, true_or, or_true, or_false, false_or, false_and, and_false, m_lesser]
  · simp (disch := omega) only [Int.add_zero, Int.mul_zero, Int.reduceMul, Int.reduceAdd, Int.mul_one, Int.tdiv_eq_ediv_of_nonneg, Int.tmod_eq_emod_of_nonneg, ↓reduceIte, ↓zLet_eq, ↓zRd_ok, ↓zWr_ok, ↓zC_V, ↓zC_I, ↓zC_J, zUp_at, zUp_ne, q_up_at, q_up_ne, w32_of, w64_of, q_le_T, q_le_F, q_lt_T, q_lt_F, q_eq_T, q_eq_F, true_or, or_true, or_false, false_or, false_and, and_false]
theorem q_he_in {tm : Int → Int} {A cx : Int} (ht : q_tm tm) (hA1 : A ≤ 1000000) (hc0 : 0 ≤ cx) : 0 ≤ q_he tm A cx ∧ q_he tm A cx ≤ 2000000 := by
  obtain ⟨-, ⟨t1, t2⟩, ⟨t3, t4⟩, -⟩ := ht
  unfold q_he
  by_cases h0 : 0 < A
  · have hq := q_min_le A cx
    have hq0 := q_min_nn (a := A) (b := cx) (by omega) hc0
    have p1 := q_mb t1 t2 hq0 (show q_min A cx ≤ 1000000 by omega)
    have p2 := q_mb t3 t4 (show 0 ≤ A - q_min A cx by omega) (show A - q_min A cx ≤ 1000000 by omega)
    rw [if_pos h0]
    omega
  · rw [if_neg h0]
    omega
theorem m_reach_loop {c cx : Int} (ht : q_tm (μ 2)) (hc0 : 0 ≤ c) (hc1 : c ≤ 10000000000000 - 100000) (hx0 : 0 ≤ cx) (hx1 : cx ≤ 1000000000000) (hy0 : 0 ≤ y) (hy1 : y ≤ 99999) (K : ZMem → Option ZRes) : ∀ (k n : Nat) (v : Int), v + k = 100000 → 0 ≤ v → k < n → (∀ w, 0 ≤ w → w < v → q_he (μ 2) (w - c) cx < y) → ∃ r, q_lst (fun w => q_he (μ 2) (w - c) cx) y r ∧ L_Model_reaches_174 y c cx K n v μ = if r ≤ 99999 then some (.inr (some (zI r)), μ) else K μ
  | 0, n + 1, v, hv, h0, _, hw => by
    refine ⟨v, ⟨h0, by omega, hw, Or.inl (by omega)⟩, ?_⟩
    rw [L_Model_reaches_174]
    simp (disch := omega) only [Int.add_zero, Int.mul_zero, Int.reduceMul, Int.reduceAdd, Int.mul_one, Int.tdiv_eq_ediv_of_nonneg, Int.tmod_eq_emod_of_nonneg, ↓reduceIte, ↓zLet_eq, ↓zRd_ok, ↓zWr_ok, ↓zC_V, ↓zC_I, ↓zC_J, zUp_at, zUp_ne, q_up_at, q_up_ne, w32_of, w64_of, q_le_T, q_le_F, q_lt_T, q_lt_F, q_eq_T, q_eq_F, true_or, or_true, or_false, false_or, false_and, and_false]
  | k + 1, n + 1, v, hv, h0, hk, hw => by
    have e := m_hersOf (μ := μ) (A := v - c) (cx := cx) ht (by omega) (by omega) hx0 hx1
    have b := q_he_in (tm := μ 2) (A := v - c) (cx := cx) ht (by omega) hx0
    by_cases g : q_he (μ 2) (v - c) cx < y
    · obtain ⟨r, l, er⟩ := m_reach_loop ht hc0 hc1 hx0 hx1 hy0 hy1 K k n (v + 1) (by omega) (by omega) (by omega) (fun w w0 w1 => by
        by_cases ew : w = v
        · rw [ew]; exact g
        · exact hw w w0 (by omega))
      refine ⟨r, l, ?_⟩
      rw [L_Model_reaches_174]
      simp (disch := omega) only [Int.add_zero, Int.mul_zero, Int.reduceMul, Int.reduceAdd, Int.mul_one, Int.tdiv_eq_ediv_of_nonneg, Int.tmod_eq_emod_of_nonneg, ↓reduceIte, ↓zLet_eq, ↓zRd_ok, ↓zWr_ok, ↓zC_V, ↓zC_I, ↓zC_J, zUp_at, zUp_ne, q_up_at, q_up_ne, w32_of, w64_of, q_le_T, q_le_F, q_lt_T, q_lt_F, q_eq_T, q_eq_F, true_or, or_true, or_false, false_or, false_and, and_false, e]
      exact er
    · refine ⟨v, ⟨h0, by omega, hw, Or.inr (Int.not_lt.mp g)⟩, ?_⟩
      rw [L_Model_reaches_174, if_pos (show v ≤ 99999 by omega)]
      simp (disch := omega) only [Int.add_zero, Int.mul_zero, Int.reduceMul, Int.reduceAdd, Int.mul_one, Int.tdiv_eq_ediv_of_nonneg, Int.tmod_eq_emod_of_nonneg, ↓reduceIte, ↓zLet_eq, ↓zRd_ok, ↓zWr_ok, ↓zC_V, ↓zC_I, ↓zC_J, zUp_at, zUp_ne, q_up_at, q_up_ne, w32_of, w64_of, q_le_T, q_le_F, q_lt_T, q_lt_F, q_eq_T, q_eq_F, true_or, or_true, or_false, false_or, false_and, and_false, e]
theorem k_reach_loop {h : Int → Int} {d : Int} (hm : ∀ u v, u ≤ v → h u ≤ h v) (hb : ∀ v, 0 ≤ v → v ≤ 99999 → 0 ≤ h v ∧ h v ≤ 2000000) (hy0 : 0 ≤ y) (hy1 : y ≤ 99999) (Q : ZMem → Prop) (hQ : ∀ κ v, Q κ → 0 ≤ v → v ≤ 99999 → ∃ κ', F_Ledger_measureAt d v κ = some (.inr none, κ') ∧ Q κ' ∧ κ' 19 4 = h v) (K : Int → ZMem → Option ZRes) : ∀ (k n : Nat) (lo hi it : Int) (κ : ZMem), it + k = 20 → 0 ≤ it → 0 ≤ lo → lo ≤ hi → hi ≤ 100000 → hi - lo < 2 ^ k → k < n → Q κ → (∀ w, 0 ≤ w → w < lo → h w < y) → (hi = 100000 ∨ y ≤ h hi) → ∃ r κ', q_lst h y r ∧ Q κ' ∧ L_Ledger_reaches_43 d y K n lo hi it κ = K r κ'
  | 0, n + 1, lo, hi, it, κ, e, i0, l0, l1, l2, hp, _, q, hw, hh => by
    have : lo = hi := by
      have : (2 : Int) ^ 0 = 1 := rfl
      omega
    subst this
    refine ⟨lo, κ, ⟨l0, l2, hw, hh⟩, q, ?_⟩
    rw [L_Ledger_reaches_43]
    simp (disch := omega) only [Int.add_zero, Int.mul_zero, Int.reduceMul, Int.reduceAdd, Int.mul_one, Int.tdiv_eq_ediv_of_nonneg, Int.tmod_eq_emod_of_nonneg, ↓reduceIte, ↓zLet_eq, ↓zRd_ok, ↓zWr_ok, ↓zC_V, ↓zC_I, ↓zC_J, zUp_at, zUp_ne, q_up_at, q_up_ne, w32_of, w64_of, q_le_T, q_le_F, q_lt_T, q_lt_F, q_eq_T, q_eq_F, true_or, or_true, or_false, false_or, false_and, and_false]
  | k + 1, n + 1, lo, hi, it, κ, e, i0, l0, l1, l2, hp, hk, q, hw, hh => by
    by_cases g : hi ≤ lo
    · have : lo = hi := by omega
      subst this
      refine ⟨lo, κ, ⟨l0, l2, hw, hh⟩, q, ?_⟩
      rw [L_Ledger_reaches_43]
      simp (disch := omega) only [Int.add_zero, Int.mul_zero, Int.reduceMul, Int.reduceAdd, Int.mul_one, Int.tdiv_eq_ediv_of_nonneg, Int.tmod_eq_emod_of_nonneg, ↓reduceIte, ↓zLet_eq, ↓zRd_ok, ↓zWr_ok, ↓zC_V, ↓zC_I, ↓zC_J, zUp_at, zUp_ne, q_up_at, q_up_ne, w32_of, w64_of, q_le_T, q_le_F, q_lt_T, q_lt_F, q_eq_T, q_eq_F, true_or, or_true, or_false, false_or, false_and, and_false]
    · have ep : (2 : Int) ^ (k + 1) = 2 ^ k * 2 := Int.pow_succ 2 k
      have em : lo ≤ (lo + hi) / 2 ∧ (lo + hi) / 2 < hi := by omega
      obtain ⟨κ', r, q', v⟩ := hQ κ ((lo + hi) / 2) q (by omega) (by omega)
      have b := hb ((lo + hi) / 2) (by omega) (by omega)
      by_cases g2 : h ((lo + hi) / 2) < y
      · obtain ⟨r', κ2, a1, a2, a3⟩ := k_reach_loop hm hb hy0 hy1 Q hQ K k n ((lo + hi) / 2 + 1) hi (it + 1) κ' (by omega) (by omega) (by omega) (by omega) l2 (by omega) (by omega) q' (fun w w0 w1 => Int.lt_of_le_of_lt (hm w ((lo + hi) / 2) (by omega)) g2) hh
        refine ⟨r', κ2, a1, a2, ?_⟩
        rw [L_Ledger_reaches_43, ← a3]
        simp (disch := omega) only [Int.add_zero, Int.mul_zero, Int.reduceMul, Int.reduceAdd, Int.mul_one, Int.tdiv_eq_ediv_of_nonneg, Int.tmod_eq_emod_of_nonneg, ↓reduceIte, ↓zLet_eq, ↓zRd_ok, ↓zWr_ok, ↓zC_V, ↓zC_I, ↓zC_J, zUp_at, zUp_ne, q_up_at, q_up_ne, w32_of, w64_of, q_le_T, q_le_F, q_lt_T, q_lt_F, q_eq_T, q_eq_F, true_or, or_true, or_false, false_or, false_and, and_false, r, v, J_Ledger_reaches_101]
      · obtain ⟨r', κ2, a1, a2, a3⟩ := k_reach_loop hm hb hy0 hy1 Q hQ K k n lo ((lo + hi) / 2) (it + 1) κ' (by omega) (by omega) (by omega) (by omega) (by omega) (by omega) (by omega) q' hw (Or.inr (Int.not_lt.mp g2))
        refine ⟨r', κ2, a1, a2, ?_⟩
        rw [L_Ledger_reaches_43, ← a3]
        simp (disch := omega) only [Int.add_zero, Int.mul_zero, Int.reduceMul, Int.reduceAdd, Int.mul_one, Int.tdiv_eq_ediv_of_nonneg, Int.tmod_eq_emod_of_nonneg, ↓reduceIte, ↓zLet_eq, ↓zRd_ok, ↓zWr_ok, ↓zC_V, ↓zC_I, ↓zC_J, zUp_at, zUp_ne, q_up_at, q_up_ne, w32_of, w64_of, q_le_T, q_le_F, q_lt_T, q_lt_F, q_eq_T, q_eq_F, true_or, or_true, or_false, false_or, false_and, and_false, r, v, J_Ledger_reaches_101]
theorem face_reaches (h : z_rest m dl a κ μ) (hx : q_i32 x) (hy : q_i32 y) : z_face [(eIOB, 1), (eIAE, 2)] m dl a κ μ (F_Ledger_reaches x y κ) (F_Model_reaches x y μ) := by
  obtain ⟨hf, h6, hdl, ht, ⟨m5, m6, m11, ha⟩, ⟨k3, k4, k11⟩, hi, hq, hs⟩ := h.all
  obtain ⟨M, C⟩ := h
  have hxx := hx
  obtain ⟨x1, x2⟩ := hxx
  obtain ⟨y1, y2⟩ := hy
  by_cases gx : -1 ≤ x ∧ x < dl
  · have eY := kY_don k4 hdl gx.1 gx.2
    by_cases gy : 0 ≤ y ∧ y ≤ 99999
    · have hl0 : 0 ≤ q_lo (μ 2) x ∧ q_lo (μ 2) x < 8 := by rcases q_lo_in (tm := μ 2) gx.1 (show x < 6 by omega) with h | h <;> omega
      obtain ⟨b0, b1, b2, b3⟩ := q_lbd hi (by omega) (by omega) hl0.1 hl0.2
      obtain ⟨c0, c1⟩ := q_lbd1 hi (by omega) (by omega)
      have hcc : 0 ≤ q_cc (q_lo (μ 2) x) (q_lb (μ 2) x) (μ 5) ∧ q_cc (q_lo (μ 2) x) (q_lb (μ 2) x) (μ 5) ≤ 2000000000000 := by unfold q_cc; split <;> omega
      have hcp : 0 ≤ q_cp (q_lo (μ 2) x) (q_lb (μ 2) x) (μ 5) ∧ q_cp (q_lo (μ 2) x) (q_lb (μ 2) x) (μ 5) ≤ 2000000000000 := by unfold q_cp; split <;> omega
      have hcx := q_cx_in (tm := μ 2) (G := μ 5 (54 + 4 * q_lo (μ 2) x + 2) + q_cp (q_lo (μ 2) x) (q_lb (μ 2) x) (μ 5)) (T := μ 5 (54 + 4 * q_lo (μ 2) x + 3))
      have lo : ∀ v, F_Model_ladderOf x (zUp μ 0 0 v) = some (.inr (some (zI (q_lo (μ 2) x))), zUp μ 0 0 v) := fun v => by
        have e2 : zUp μ 0 0 v 2 = μ 2 := zUp_ne (by decide)
        have := m_ladderOf (μ := zUp μ 0 0 v) (d := x) (by rw [e2]; exact ht) gx.1 (by omega)
        rw [e2] at this
        exact this
      have eR : ∀ cx, cx = q_cx (μ 2) (μ 5 (54 + 4 * q_lo (μ 2) x + 2) + q_cp (q_lo (μ 2) x) (q_lb (μ 2) x) (μ 5)) (μ 5 (54 + 4 * q_lo (μ 2) x + 3)) → F_Model_reaches x y μ = J_Model_reaches_169 y (q_cc (q_lo (μ 2) x) (q_lb (μ 2) x) (μ 5) + q_cp (q_lo (μ 2) x) (q_lb (μ 2) x) (μ 5)) cx (zUp μ 0 0 0) := fun cx ecx => by
        have tail : ∀ u3, u3 = q_lo (μ 2) x → ∀ u4, u4 = q_cp (q_lo (μ 2) x) (q_lb (μ 2) x) (μ 5) → ∀ y0 y1, y1 + y0 = q_cc (q_lo (μ 2) x) (q_lb (μ 2) x) (μ 5) → J_Model_reaches_117 y u3 u4 y0 y1 (zUp μ 0 0 0) = J_Model_reaches_169 y (q_cc (q_lo (μ 2) x) (q_lb (μ 2) x) (μ 5) + q_cp (q_lo (μ 2) x) (q_lb (μ 2) x) (μ 5)) cx (zUp μ 0 0 0) := fun u3 e3 u4 e4 y0 y1 ey => by
          subst e3
          subst e4
          have e2 : zUp μ 0 0 0 2 = μ 2 := zUp_ne (by decide)
          have htt := ht
          obtain ⟨-, ⟨t1, t2⟩, ⟨t3, t4⟩, -⟩ := htt
          unfold J_Model_reaches_117
          by_cases hk : μ 2 1 ≤ μ 2 2
          · have : cx = 0 := by rw [ecx]; exact if_neg (by omega)
            rw [this]
            simp (disch := omega) only [Int.add_zero, Int.mul_zero, Int.reduceMul, Int.reduceAdd, Int.mul_one, Int.tdiv_eq_ediv_of_nonneg, Int.tmod_eq_emod_of_nonneg, ↓reduceIte, ↓zLet_eq, ↓zRd_ok, ↓zWr_ok, ↓zC_V, ↓zC_I, ↓zC_J, zUp_at, zUp_ne, q_up_at, q_up_ne, w32_of, w64_of, q_le_T, q_le_F, q_lt_T, q_lt_F, q_eq_T, q_eq_F, true_or, or_true, or_false, false_or, false_and, and_false, ey]
          · have hcu : q_cx (μ 2) (μ 5 (54 + 4 * q_lo (μ 2) x + 2) + q_cp (q_lo (μ 2) x) (q_lb (μ 2) x) (μ 5)) (μ 5 (54 + 4 * q_lo (μ 2) x + 3)) = q_cu (μ 2 1) (μ 2 2) (μ 5 (54 + 4 * q_lo (μ 2) x + 2) + q_cp (q_lo (μ 2) x) (q_lb (μ 2) x) (μ 5)) (μ 5 (54 + 4 * q_lo (μ 2) x + 3)) := if_pos (by omega)
            have ec := m_caught (μ := zUp μ 0 0 0) (G := μ 5 (54 + 4 * q_lo (μ 2) x + 2) + q_cp (q_lo (μ 2) x) (q_lb (μ 2) x) (μ 5)) (T := μ 5 (54 + 4 * q_lo (μ 2) x + 3)) (by rw [e2]; exact t3) (by rw [e2]; omega) (by rw [e2]; exact t2) (by omega) (by omega) (by omega) (by omega)
            rw [e2, ← hcu, ← ecx] at ec
            simp (disch := omega) only [Int.add_zero, Int.mul_zero, Int.reduceMul, Int.reduceAdd, Int.mul_one, Int.tdiv_eq_ediv_of_nonneg, Int.tmod_eq_emod_of_nonneg, ↓reduceIte, ↓zLet_eq, ↓zRd_ok, ↓zWr_ok, ↓zC_V, ↓zC_I, ↓zC_J, zUp_at, zUp_ne, q_up_at, q_up_ne, w32_of, w64_of, q_le_T, q_le_F, q_lt_T, q_lt_F, q_eq_T, q_eq_F, true_or, or_true, or_false, false_or, false_and, and_false, m_ladderAt, ey, ec]
        have ecc : q_cc (q_lo (μ 2) x) (q_lb (μ 2) x) (μ 5) = μ 5 (54 + 4 * q_lo (μ 2) x) + (if q_lb (μ 2) x = 0 then 0 else μ 5 58) := rfl
        have ecp : q_cp (q_lo (μ 2) x) (q_lb (μ 2) x) (μ 5) = μ 5 (54 + 4 * q_lo (μ 2) x + 1) + (if q_lb (μ 2) x = 0 then 0 else μ 5 59) := rfl
        unfold F_Model_reaches J_Model_reaches_40 J_Model_reaches_86
        rcases q_lo_in (tm := μ 2) gx.1 (show x < 6 by omega) with ⟨l1, l2⟩ | ⟨l1, l2, l3⟩
        · rw [if_pos l2] at ecc ecp
          simp (disch := omega) only [Int.add_zero, Int.mul_zero, Int.reduceMul, Int.reduceAdd, Int.mul_one, Int.tdiv_eq_ediv_of_nonneg, Int.tmod_eq_emod_of_nonneg, ↓reduceIte, ↓zLet_eq, ↓zRd_ok, ↓zWr_ok, ↓zC_V, ↓zC_I, ↓zC_J, zUp_at, zUp_ne, q_up_at, q_up_ne, w32_of, w64_of, q_le_T, q_le_F, q_lt_T, q_lt_F, q_eq_T, q_eq_F, true_or, or_true, or_false, false_or, false_and, and_false, z_isInY, lo, m_ladderAt]
          exact tail (q_lo (μ 2) x) rfl _ (by omega) 0 (μ 5 (54 + 4 * q_lo (μ 2) x)) (by omega)
        · rw [if_neg (show ¬ q_lb (μ 2) x = 0 by omega)] at ecc ecp
          simp (disch := omega) only [Int.add_zero, Int.mul_zero, Int.reduceMul, Int.reduceAdd, Int.mul_one, Int.tdiv_eq_ediv_of_nonneg, Int.tmod_eq_emod_of_nonneg, ↓reduceIte, ↓zLet_eq, ↓zRd_ok, ↓zWr_ok, ↓zC_V, ↓zC_I, ↓zC_J, zUp_at, zUp_ne, q_up_at, q_up_ne, w32_of, w64_of, q_le_T, q_le_F, q_lt_T, q_lt_F, q_eq_T, q_eq_F, true_or, or_true, or_false, false_or, false_and, and_false, z_isInY, lo, m_ladderAt]
          exact tail (q_lo (μ 2) x) rfl _ (by omega) (μ 5 58) (μ 5 (54 + 4 * q_lo (μ 2) x)) (by omega)
      rw [eR _ rfl]
      have e2 : zUp μ 0 0 0 2 = μ 2 := zUp_ne (by decide)
      obtain ⟨r, l, er⟩ := m_reach_loop (μ := zUp μ 0 0 0) (y := y) (c := q_cc (q_lo (μ 2) x) (q_lb (μ 2) x) (μ 5) + q_cp (q_lo (μ 2) x) (q_lb (μ 2) x) (μ 5)) (cx := q_cx (μ 2) (μ 5 (54 + 4 * q_lo (μ 2) x + 2) + q_cp (q_lo (μ 2) x) (q_lb (μ 2) x) (μ 5)) (μ 5 (54 + 4 * q_lo (μ 2) x + 3))) (by rw [e2]; exact ht) (by omega) (by omega) hcx.1 hcx.2 gy.1 gy.2 (fun μ19 => some (.inr (some (zI (-1))), μ19)) 100000 zN 0 (by omega) (by omega) (zN_gt (by decide)) (fun w w0 w1 => by omega)
      rw [e2] at l
      obtain ⟨r', κ', l', Q', ek⟩ := k_reach_loop (y := y) (d := x) (h := fun w => q_he (μ 2) (w - (q_cc (q_lo (μ 2) x) (q_lb (μ 2) x) (μ 5) + q_cp (q_lo (μ 2) x) (q_lb (μ 2) x) (μ 5))) (q_cx (μ 2) (μ 5 (54 + 4 * q_lo (μ 2) x + 2) + q_cp (q_lo (μ 2) x) (q_lb (μ 2) x) (μ 5)) (μ 5 (54 + 4 * q_lo (μ 2) x + 3))))
        (fun u v huv => q_he_mono ht.2.1.1 ht.2.2.1.1 hcx.1 (by omega)) (fun v v0 v1 => q_he_in ht (by omega) hcx.1) gy.1 gy.2 (fun κ1 => ∀ c, c ≠ 19 → κ1 c = κ c)
        (fun κ1 v Q v0 v1 => by
          obtain ⟨κ2, rc, fc, g0, g1, g2, g3, g4, g5⟩ := k_measureAt (κ := κ1) (d := x) (sum := v) ((hs.vw (κ' := κ1) (fun c hc => Q c (by omega))).1.1) hi hdl (by omega) (by omega) ht gx.1 gx.2 v0 v1
          refine ⟨κ2, rc, fun c hc => (fc c hc).trans (Q c hc), g4.trans ?_⟩
          exact q_sM_he hcc.1 hcp.1 v0)
        (fun k10 μ9 => if w32 k10 ≤ w32 99999 then some (.inr (some (zI k10)), μ9) else some (.inr (some (zI (-1))), μ9)) 20 zN 0 100000 0 κ (by omega) (by omega) (by omega) (by omega) (by omega) (by decide) (zN_gt (by decide)) (fun _ _ => rfl) (fun w w0 w1 => by omega) (Or.inl rfl)
      have err : r' = r := l'.uniq l
      subst err
      have lr := l.1
      have lr2 := l.2.1
      have eC : F_Ledger_reaches x y κ = some (.inr (some (zI (if r' ≤ 99999 then r' else -1))), κ') := by
        unfold F_Ledger_reaches
        rw [eY, zC_I, w32_of (by omega) (by omega), if_neg (by decide), w32_of (by omega) (by omega), if_neg (by omega), if_pos (show y ≤ w32 99999 by rw [w32_of (by decide) (by decide)]; exact gy.2), ek, w32_of (by omega) (by omega), w32_of (by decide) (by decide)]
        by_cases g : r' ≤ 99999
        · rw [if_pos g, if_pos g]
        · rw [if_neg g, if_neg g]
      refine z_face.ok0 (v := zI (if r' ≤ 99999 then r' else -1)) M eC ?_ (c_fr.of (fun c hc => Q' c (by omega)))
      unfold J_Model_reaches_169
      rw [er]
      by_cases g : r' ≤ 99999
      · rw [if_pos g, if_pos g]
      · rw [if_neg g, if_neg g]
    · refine z_face.th (v := zI 0) (E := eIAE) (n := 2) M ?_ ?_ (by decide) (by decide +kernel)
      · unfold F_Ledger_reaches J_Ledger_reaches_26
        by_cases h0 : y < 0
        · simp (disch := omega) only [Int.add_zero, Int.mul_zero, Int.reduceMul, Int.reduceAdd, Int.mul_one, Int.tdiv_eq_ediv_of_nonneg, Int.tmod_eq_emod_of_nonneg, ↓reduceIte, ↓zLet_eq, ↓zRd_ok, ↓zWr_ok, ↓zC_V, ↓zC_I, ↓zC_J, zUp_at, zUp_ne, q_up_at, q_up_ne, w32_of, w64_of, q_le_T, q_le_F, q_lt_T, q_lt_F, q_eq_T, q_eq_F, true_or, or_true, or_false, false_or, false_and, and_false, eY]
        · simp (disch := omega) only [Int.add_zero, Int.mul_zero, Int.reduceMul, Int.reduceAdd, Int.mul_one, Int.tdiv_eq_ediv_of_nonneg, Int.tmod_eq_emod_of_nonneg, ↓reduceIte, ↓zLet_eq, ↓zRd_ok, ↓zWr_ok, ↓zC_V, ↓zC_I, ↓zC_J, zUp_at, zUp_ne, q_up_at, q_up_ne, w32_of, w64_of, q_le_T, q_le_F, q_lt_T, q_lt_F, q_eq_T, q_eq_F, true_or, or_true, or_false, false_or, false_and, and_false, eY]
      · unfold F_Model_reaches J_Model_reaches_40
        simp (disch := omega) only [Int.add_zero, Int.mul_zero, Int.reduceMul, Int.reduceAdd, Int.mul_one, Int.tdiv_eq_ediv_of_nonneg, Int.tmod_eq_emod_of_nonneg, ↓reduceIte, ↓zLet_eq, ↓zRd_ok, ↓zWr_ok, ↓zC_V, ↓zC_I, ↓zC_J, zUp_at, zUp_ne, q_up_at, q_up_ne, w32_of, w64_of, q_le_T, q_le_F, q_lt_T, q_lt_F, q_eq_T, q_eq_F, true_or, or_true, or_false, false_or, false_and, and_false, z_isInY, z_isInN]
  · have eY := kN_don k4 hdl hx (by omega)
    refine z_face.th (v := zI 0) (E := eIOB) (n := 1) M ?_ ?_ (by decide) (by decide +kernel)
    · unfold F_Ledger_reaches
      simp (disch := omega) only [Int.add_zero, Int.mul_zero, Int.reduceMul, Int.reduceAdd, Int.mul_one, Int.tdiv_eq_ediv_of_nonneg, Int.tmod_eq_emod_of_nonneg, ↓reduceIte, ↓zLet_eq, ↓zRd_ok, ↓zWr_ok, ↓zC_V, ↓zC_I, ↓zC_J, zUp_at, zUp_ne, q_up_at, q_up_ne, w32_of, w64_of, q_le_T, q_le_F, q_lt_T, q_lt_F, q_eq_T, q_eq_F, true_or, or_true, or_false, false_or, false_and, and_false, eY]
    · unfold F_Model_reaches J_Model_reaches_40
      simp (disch := omega) only [Int.add_zero, Int.mul_zero, Int.reduceMul, Int.reduceAdd, Int.mul_one, Int.tdiv_eq_ediv_of_nonneg, Int.tmod_eq_emod_of_nonneg, ↓reduceIte, ↓zLet_eq, ↓zRd_ok, ↓zWr_ok, ↓zC_V, ↓zC_I, ↓zC_J, zUp_at, zUp_ne, q_up_at, q_up_ne, w32_of, w64_of, q_le_T, q_le_F, q_lt_T, q_lt_F, q_eq_T, q_eq_F, true_or, or_true, or_false, false_or, false_and, and_false, z_isInN]
end FG
