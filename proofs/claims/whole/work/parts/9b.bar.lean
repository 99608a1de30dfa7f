/-! ===== trying one term after another ===== -/
section GH
variable {m dl a : Nat} {x y z : Int} {κ μ ν : ZMem}
/-- the reference with term z tried -/
def m_tr (m dl a : Nat) (z : Int) (μ ν : ZMem) : Prop := (∃ y, ν 2 = q_up (μ 2) z y) ∧ m_cf m dl ν ∧ ν 0 11 = a ∧ q_jo m dl (ν 2) (ν 4) (ν 3) (ν 8) a ∧ (∀ c, c = 1 ∨ c = 3 ∨ c = 4 ∨ c = 8 ∨ c = 14 ∨ c = 15 → ν c = μ c) ∧ (∀ k, k = 5 ∨ k = 6 ∨ k = 11 ∨ k = 19 ∨ k = 21 ∨ k = 24 → ν 0 k = μ 0 k) ∧ ν 0 0 = 0
theorem q_up_twice (f : Int → Int) (x y y' : Int) : q_up (q_up f x y') x y = q_up f x y := by
  funext k
  by_cases e : k = x
  · rw [e, q_up_at, q_up_at]
  · rw [q_up_ne e, q_up_ne e, q_up_ne e]
theorem q_up_same (f : Int → Int) (x : Int) : q_up f x (f x) = f := by
  funext k
  by_cases e : k = x
  · rw [e, q_up_at]
  · rw [q_up_ne e]
theorem m_tr.start (M : m_at m dl a μ) : m_tr m dl a z μ (zUp μ 0 0 0) := by
  have M0 := M.up0 0
  refine ⟨⟨μ 2 z, by rw [zUp_ne (by decide), q_up_same]⟩, M0.1, M0.2.1, M0.2.2.1, fun c hc => zUp_ne (by omega), fun k hk => by rw [zUp_at, q_up_ne (by omega)], by rw [zUp_at, q_up_at]⟩
theorem m_tr.step (R : m_tr m dl a z μ ν) (z0 : 0 ≤ z) (z1 : z < 6) (ht' : q_tm (q_up (μ 2) z y)) : ∃ ν', F_Model_worksOut (zUp ν 2 z y) = some (.inr none, ν') ∧ m_tr m dl a z μ ν' ∧ ν' 2 = q_up (μ 2) z y ∧ ν' 5 = (q_run m (q_up (μ 2) z y) (μ 4) (μ 3) (μ 8) a).1 ∧ m_at m dl a ν' := by
  obtain ⟨⟨y', e2⟩, cf, h11, hj, ec, e0, e00⟩ := R
  have eq : q_up (ν 2) z y = q_up (μ 2) z y := by rw [e2, q_up_twice]
  obtain ⟨μ1, r1, kp1, cf1, h111, hj1, h5, at1⟩ := m_under (x := z) (y := y) cf h11 hj z0 z1 (by rw [eq]; exact ht')
  rw [eq, ec 3 (by decide), ec 4 (by decide), ec 8 (by decide)] at h5
  obtain ⟨-, t2, -⟩ := kp1.at
  have e2' : μ1 2 = q_up (μ 2) z y := by rw [t2, zUp_at, eq]
  refine ⟨μ1, r1, ⟨⟨y, e2'⟩, cf1, h111, hj1, fun c hc => ?_, fun k hk => ?_, ?_⟩, e2', h5, at1⟩
  · rw [kp1.1 c (by omega) (by omega) (by omega) (by omega) (by omega) (by omega) (by omega) (by omega) (by omega) (by omega), zUp_ne (by omega)]
    exact ec c hc
  · rw [kp1.2 k (by omega) (by omega) (by omega), zUp_ne (by decide)]
    exact e0 k hk
  · rw [kp1.2 0 (by decide) (by decide) (by decide), zUp_ne (by decide)]
    exact e00
theorem m_tr.back (R : m_tr m dl a z μ ν) (z0 : 0 ≤ z) (z1 : z < 6) (ht : q_tm (μ 2)) : ∃ ν', F_Model_worksOut (zUp ν 2 z (μ 2 z)) = some (.inr none, ν') ∧ m_fr μ ν' ∧ m_at m dl a ν' ∧ ν' 0 0 = 0 := by
  obtain ⟨ν', r, R', e2, -, at'⟩ := R.step (y := μ 2 z) z0 z1 (by rw [q_up_same]; exact ht)
  rw [q_up_same] at e2
  refine ⟨ν', r, ⟨fun c hc => ?_, R'.2.2.2.2.2.1⟩, at', R'.2.2.2.2.2.2⟩
  by_cases h2 : c = 2
  · rw [h2]; exact e2
  · exact R'.2.2.2.2.1 c (by omega)
end GH
