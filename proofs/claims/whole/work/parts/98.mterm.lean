/-! ===== the reference under another term, and back ===== -/
section GE
variable {m dl a : Nat} {x y : Int} {μ : ZMem}
theorem q_up_back (f : Int → Int) (x y : Int) : q_up (q_up f x y) x (f x) = f := by
  funext k
  by_cases e : k = x
  · rw [e, q_up_at]
  · rw [q_up_ne e, q_up_ne e]
theorem m_under (cf : m_cf m dl μ) (h11 : μ 0 11 = a) (hj : q_jo m dl (μ 2) (μ 4) (μ 3) (μ 8) a) (x0 : 0 ≤ x) (x1 : x < 6) (ht' : q_tm (q_up (μ 2) x y)) : ∃ μ', F_Model_worksOut (zUp μ 2 x y) = some (.inr none, μ') ∧ m_kp (zUp μ 2 x y) μ' ∧ m_cf m dl μ' ∧ μ' 0 11 = a ∧ q_jo m dl (μ' 2) (μ' 4) (μ' 3) (μ' 8) a ∧ μ' 5 = (q_run m (q_up (μ 2) x y) (μ 4) (μ 3) (μ 8) a).1 ∧ m_at m dl a μ' := by
  have e2 : zUp μ 2 x y 2 = q_up (μ 2) x y := zUp_at _ _ _ _
  have e : ∀ c, c ≠ 2 → zUp μ 2 x y c = μ c := fun c hc => zUp_ne hc
  have hf := cf.2.2.1
  have hf' : q_fu m dl (q_up (μ 2) x y) (μ 4) (μ 3) := ⟨hf.1, hf.2.1, ht', hf.2.2.2⟩
  have hj' : q_jo m dl (q_up (μ 2) x y) (μ 4) (μ 3) (μ 8) a := hj.terms hf (q_up_ne (by omega))
  have cf' : m_cf m dl (zUp μ 2 x y) := by
    unfold m_cf
    rw [e2, e 0 (by decide), e 3 (by decide), e 4 (by decide), e 5 (by decide), e 6 (by decide), e 7 (by decide)]
    exact ⟨cf.1, cf.2.1, hf', cf.2.2.2⟩
  obtain ⟨μ', r, kp, at'⟩ := m_worksOutS (a := a) cf' (by rw [e 0 (by decide)]; exact h11) (by rw [e2, e 3 (by decide), e 4 (by decide), e 8 (by decide)]; exact hj')
  obtain ⟨-, t2, t3, t4, t8, -⟩ := kp.at
  refine ⟨μ', r, kp, at'.1, at'.2.1, at'.2.2.1, ?_, at'⟩
  have h5 := at'.row.2.2.2.2.2.1
  rw [t2, t3, t4, t8, e2, e 3 (by decide), e 4 (by decide), e 8 (by decide)] at h5
  exact h5
end GE
