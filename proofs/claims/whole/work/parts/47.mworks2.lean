theorem m_doesAgain {μ : ZMem} {m dl : Nat} {B k as : Int} (fe : Int → Int) (hm : μ 0 5 = m) (h6 : m ≤ 6) (hdd : μ 0 6 = dl) (hdl : dl ≤ 6) (hi : q_inv m dl B (μ 5)) (hB0 : 0 ≤ B) (hB1 : B + 2 * (200 - μ 5 90) ≤ 760) (ht : q_tm (μ 2)) (hk0 : 0 ≤ k) (hk1 : k < 60) (has0 : 0 ≤ as) (has1 : as ≤ 60) (ha : q_ja m dl (μ 8) k) (hc : q_jc m dl (μ 4) (μ 8) k (μ 5) = 1) :
    ∃ μ', F_Model_doesAgain k as μ = some (.inr none, μ') ∧ m_kp μ μ' ∧ μ' 0 14 = 60 ∧ (μ' 5, μ' 6, μ' 7, (q_jd m (μ 2) (μ 4) (μ 8) k (μ 5, μ 6, μ 7, fe)).2.2.2) = q_jd m (μ 2) (μ 4) (μ 8) k (μ 5, μ 6, μ 7, fe) ∧
      μ' 9 = q_up (μ 9) as (q_th (μ 2) (μ 8 (5 * k)) (μ 8 (5 * k + 1)) (μ 8 (5 * k + 2)) (μ 5, μ 6, μ 7, fe)) ∧ μ' 10 = q_up (μ 10) as (q_hr (μ 2) (μ 8 (5 * k)) (μ 8 (5 * k + 1)) (μ 8 (5 * k + 2)) (μ 5, μ 6, μ 7, fe)) := by
  unfold F_Model_doesAgain
  simp (disch := omega) only [Int.add_zero, Int.mul_zero, Int.reduceMul, Int.reduceAdd, Int.mul_one, Int.tdiv_eq_ediv_of_nonneg, Int.tmod_eq_emod_of_nonneg, ↓reduceIte, ↓zLet_eq, ↓zRd_ok, ↓zWr_ok, ↓zC_V, ↓zC_I, ↓zC_J, zUp_at, zUp_ne, q_up_at, q_up_ne, w32_of, w64_of, q_le_T, q_le_F, q_lt_T, q_lt_F, q_eq_T, q_eq_F, true_or, or_true, or_false, false_or, false_and, and_false]
  have z : ∀ c, c ≠ 0 → c ≠ 9 → c ≠ 10 → zUp (zUp (zUp μ 0 14 as) 9 as 0) 10 as 0 c = μ c := fun c c0 c9 c10 => by rw [zUp_ne c10, zUp_ne c9, zUp_ne c0]
  have z0 : zUp (zUp (zUp μ 0 14 as) 9 as 0) 10 as 0 0 = q_up (μ 0) 14 as := by rw [zUp_ne (by decide), zUp_ne (by decide), zUp_at]
  have z9 : zUp (zUp (zUp μ 0 14 as) 9 as 0) 10 as 0 9 = q_up (μ 9) as 0 := by rw [zUp_ne (by decide), zUp_at, zUp_ne (by decide)]
  have z10 : zUp (zUp (zUp μ 0 14 as) 9 as 0) 10 as 0 10 = q_up (μ 10) as 0 := by rw [zUp_at, zUp_ne (by decide), zUp_ne (by decide)]
  generalize zUp (zUp (zUp μ 0 14 as) 9 as 0) 10 as 0 = μ3 at *
  have y2 := z 2 (by decide) (by decide) (by decide)
  have y4 := z 4 (by decide) (by decide) (by decide)
  have y5 := z 5 (by decide) (by decide) (by decide)
  have y6 := z 6 (by decide) (by decide) (by decide)
  have y7 := z 7 (by decide) (by decide) (by decide)
  have y14 : μ3 0 14 = as := by rw [z0, q_up_at]
  obtain ⟨μ', r, kp, h14, hs, ⟨h9, g9⟩, h10, g10⟩ := m_does (μ := μ3) (kd := μ 8 (5 * k)) (who := μ 8 (5 * k + 1)) (sum := μ 8 (5 * k + 2)) (ot := μ 8 (5 * k + 4)) fe (by rw [z0, q_up_ne (by decide)]; exact hm) h6 (by rw [z0, q_up_ne (by decide)]; exact hdd) hdl (by rw [y5]; exact hi) hB0 (by rw [y5]; exact hB1) (by rw [y2]; exact ht) ha (by rw [y4, y5]; exact hc) (by omega) (by omega)
  rw [y2, y4, y5, y6, y7] at hs
  rw [y2, y5, y6, y7, y14, z9] at g9
  rw [y2, y5, y6, y7, y14, z10] at g10
  rw [y14, z9, q_up_up] at h9
  rw [y14, z10, q_up_up] at h10
  rw [r]
  simp (disch := omega) only [Int.add_zero, Int.mul_zero, Int.reduceMul, Int.reduceAdd, Int.mul_one, Int.tdiv_eq_ediv_of_nonneg, Int.tmod_eq_emod_of_nonneg, ↓reduceIte, ↓zLet_eq, ↓zRd_ok, ↓zWr_ok, ↓zC_V, ↓zC_I, ↓zC_J, zUp_at, zUp_ne, q_up_at, q_up_ne, w32_of, w64_of, q_le_T, q_le_F, q_lt_T, q_lt_F, q_eq_T, q_eq_F, true_or, or_true, or_false, false_or, false_and, and_false]
  refine ⟨_, rfl, ⟨fun c c0 c5 c6 c7 c9 c10 c19 c20 c21 c22 => ?_, fun i i14 i35 i36 => ?_⟩, ?_, ?_, ?_, ?_⟩
  · rw [zUp_ne c0, kp.1 c c0 c5 c6 c7 c9 c10 c19 c20 c21 c22, z c c0 c9 c10]
  · rw [zUp_at, q_up_ne i14, kp.2 i i14 i35 i36, z0, q_up_ne i14]
  · rw [zUp_at, q_up_at]
  · simp (disch := omega) only [zUp_ne]
    exact hs
  · rw [zUp_ne (by decide)]
    rw [q_up_at] at g9
    have e : μ' 9 as = q_th (μ 2) (μ 8 (5 * k)) (μ 8 (5 * k + 1)) (μ 8 (5 * k + 2)) (μ 5, μ 6, μ 7, fe) := by
      rcases g9 with g | ⟨g1, g2⟩
      · exact g
      · rw [g1, g2]
    rw [← e]
    funext j
    have := congrFun h9 j
    unfold q_up at this ⊢
    by_cases hj : j = as
    · rw [if_pos hj, hj]
    · rw [if_neg hj, if_neg hj] at this
      rw [if_neg hj, this]
  · rw [zUp_ne (by decide)]
    rw [q_up_at] at g10
    have e : μ' 10 as = q_hr (μ 2) (μ 8 (5 * k)) (μ 8 (5 * k + 1)) (μ 8 (5 * k + 2)) (μ 5, μ 6, μ 7, fe) := by
      rcases g10 with g | ⟨g1, g2⟩
      · exact g
      · rw [g1, g2]
    rw [← e]
    funext j
    have := congrFun h10 j
    unfold q_up at this ⊢
    by_cases hj : j = as
    · rw [if_pos hj, hj]
    · rw [if_neg hj, if_neg hj] at this
      rw [if_neg hj, this]
/-- a fund as it was told: how many, terms, who is excused, what was promised -/
def q_fu (m dl : Nat) (tm ex pr : Int → Int) : Prop := m ≤ 6 ∧ dl ≤ 6 ∧ q_tm tm ∧ (∀ i : Nat, i < m → 1 ≤ pr i ∧ pr i ≤ 9999) ∧ (m = 0 → dl = 0) ∧ (∀ d : Nat, d < dl → 0 ≤ ex d ∧ ex d < 64 ∧ ∃ i : Nat, i < m ∧ ¬ q_ex ex i d)
/-- a journal whose acts can be, one behind the other -/
def q_jo (m dl : Nat) (tm ex pr J : Int → Int) (a : Nat) : Prop := a ≤ 60 ∧ ∀ k : Nat, k < a → q_ja m dl J k ∧ q_jc m dl ex J k (q_run m tm ex pr J k).1 = 1
theorem q_run_succ (m : Nat) (tm ex pr J : Int → Int) (k : Nat) : q_run m tm ex pr J (k + 1) = q_jd m tm ex J k (q_run m tm ex pr J k) := rfl
theorem q_inv_0 {m dl : Nat} {tm ex pr : Int → Int} (hf : q_fu m dl tm ex pr) : q_inv m dl 0 (q_s00 m pr) := by
  obtain ⟨h6, -, -, hp, -⟩ := hf
  have e : ∀ k, k < 0 ∨ 30 ≤ k → q_s00 m pr k = 0 := fun k hk => if_neg (by omega)
  refine ⟨fun i hi => ?_, fun d hd => ?_, ⟨fun l hl => ?_, fun l _ hl => ?_⟩, ?_, fun k hk => e k (by omega)⟩
  · have h := hp i hi
    have e0 : q_s00 m pr (5 * i) = pr i := by unfold q_s00; rw [if_pos (by omega), show (5 * (i : Int)) / 5 = i by omega]
    have e1 : q_s00 m pr (5 * i + 1) = pr i := by unfold q_s00; rw [if_pos (by omega), show (5 * (i : Int) + 1) / 5 = i by omega]
    have e2 : q_s00 m pr (5 * i + 2) = 0 := if_neg (by omega)
    have e3 : q_s00 m pr (5 * i + 3) = 0 := if_neg (by omega)
    have e4 : q_s00 m pr (5 * i + 4) = 0 := if_neg (by omega)
    rw [e0, e1, e2, e3, e4]
    omega
  · rw [e _ (by omega), e _ (by omega), e _ (by omega), e _ (by omega)]
    omega
  · rw [e _ (by omega), e _ (by omega), e _ (by omega), e _ (by omega)]
    omega
  · rw [e _ (by omega), e _ (by omega), e _ (by omega), e _ (by omega)]
    omega
  · unfold q_iP
    rw [e _ (by omega), e _ (by omega), e _ (by omega), e _ (by omega), e _ (by omega), e _ (by omega)]
    omega
theorem q_s00_90 (m : Nat) (h6 : m ≤ 6) (pr : Int → Int) : q_s00 m pr 90 = 0 := if_neg (by omega)
theorem q_run_inv {m dl : Nat} {tm ex pr J : Int → Int} {a : Nat} (hf : q_fu m dl tm ex pr) (hj : q_jo m dl tm ex pr J a) : ∀ k : Nat, k ≤ a → q_inv m dl (6 * k + 2 * (q_run m tm ex pr J k).1 90) (q_run m tm ex pr J k).1 ∧ q_zz (q_run m tm ex pr J k)
  | 0, _ => by
    refine ⟨?_, fun _ _ => rfl, fun _ _ => rfl⟩
    have : (q_run m tm ex pr J 0).1 90 = 0 := q_s00_90 m hf.1 pr
    rw [this]
    exact (q_inv_0 hf).mono hf.1 (by omega)
  | k + 1, hk => by
    obtain ⟨h1, h2⟩ := q_run_inv hf hj k (by omega)
    obtain ⟨j1, j2⟩ := hj.2 k (by omega)
    have hq := h1.2.2.2.1.2.2.2.2.1
    have ha := hj.1
    rw [q_run_succ]
    obtain ⟨h3, h4⟩ := h1.act (tm := tm) hf.1 hf.2.1 hf.2.2.1 (by omega) (by omega) j1 j2
    refine ⟨h3.mono hf.1 ?_, h2.act hf.1⟩
    unfold q_jd
    omega
