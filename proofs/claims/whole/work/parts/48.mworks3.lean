/-! ===== the reference: all anew, or the first acts alone ===== -/
def q_jt (tm J : Int → Int) (k : Int) (σ : QS) : Int := q_th tm (J (5 * k)) (J (5 * k + 1)) (J (5 * k + 2)) σ
def q_jh (tm J : Int → Int) (k : Int) (σ : QS) : Int := q_hr tm (J (5 * k)) (J (5 * k + 1)) (J (5 * k + 2)) σ
/-- the reference's fund and rows at rest -/
def m_cf (m dl : Nat) (μ : ZMem) : Prop := μ 0 5 = m ∧ μ 0 6 = dl ∧ q_fu m dl (μ 2) (μ 4) (μ 3) ∧ q_z 92 (μ 5) ∧ q_z 1206 (μ 6) ∧ q_z 1206 (μ 7) ∧ μ 0 14 = 60
theorem q_pair {a b c d : Int → Int} {σ : QS} (h : (a, b, c, d) = σ) : σ = (a, b, c, d) ∧ a = σ.1 ∧ b = σ.2.1 ∧ c = σ.2.2.1 := by
  subst h
  exact ⟨rfl, rfl, rfl, rfl⟩
theorem m_kp.cf {m dl : Nat} {μ μ' : ZMem} (kp : m_kp μ μ') (h : m_cf m dl μ) (h14 : μ' 0 14 = 60) (h5 : q_z 92 (μ' 5)) (h6 : q_z 1206 (μ' 6)) (h7 : q_z 1206 (μ' 7)) : m_cf m dl μ' := by
  obtain ⟨a1, a2, a3, -⟩ := h
  obtain ⟨-, e2, e3, e4, -, e5, e6, -⟩ := kp.at
  exact ⟨e5.trans a1, e6.trans a2, by rw [e2, e3, e4]; exact a3, h5, h6, h7, h14⟩
theorem m_anewS {m dl : Nat} {μ : ZMem} (h : m_cf m dl μ) : ∃ μ', F_Model_anew μ = some (.inr none, μ') ∧ m_kp μ μ' ∧ μ' 0 = μ 0 ∧ μ' 9 = μ 9 ∧ μ' 10 = μ 10 ∧ (μ' 5, μ' 6, μ' 7, (fun _ => 0)) = q_0 m (μ 3) := by
  obtain ⟨a1, a2, a3, a4, a5, a6, a7⟩ := h
  obtain ⟨μ', r, f, g5, g6, g7⟩ := m_anew a1 a3.1 a3.2.2.2.1 a4 a5 a6
  exact ⟨μ', r, m_kp.of (fun c c5 c6 c7 _ _ _ _ _ _ => f c c5 c6 c7), f 0 (by decide) (by decide) (by decide), f 9 (by decide) (by decide) (by decide), f 10 (by decide) (by decide) (by decide), by rw [g5, g6, g7]; rfl⟩
/-- one step of a going through the journal -/
theorem m_jstep {m dl : Nat} {μ ν : ZMem} {σ : QS} {B : Int} {k : Nat} {as : Int} (h : m_cf m dl μ) (kp : m_kp μ ν) (h14 : ν 0 14 = 60) (hs : (ν 5, ν 6, ν 7, σ.2.2.2) = σ) (hi : q_inv m dl B σ.1) (hB0 : 0 ≤ B) (hB1 : B + 2 * (200 - σ.1 90) ≤ 760) (hk : k < 60) (has0 : 0 ≤ as) (has1 : as ≤ 60) (ha : q_ja m dl (μ 8) k) (hc : q_jc m dl (μ 4) (μ 8) k σ.1 = 1) :
    ∃ ν', F_Model_doesAgain k as ν = some (.inr none, ν') ∧ m_kp μ ν' ∧ ν' 0 14 = 60 ∧ (ν' 5, ν' 6, ν' 7, (q_jd m (μ 2) (μ 4) (μ 8) k σ).2.2.2) = q_jd m (μ 2) (μ 4) (μ 8) k σ ∧ ν' 9 = q_up (ν 9) as (q_jt (μ 2) (μ 8) k σ) ∧ ν' 10 = q_up (ν 10) as (q_jh (μ 2) (μ 8) k σ) := by
  obtain ⟨a1, a2, a3, -⟩ := h
  obtain ⟨-, e2, e3, e4, e8, e5, e6, -⟩ := kp.at
  obtain ⟨q1, q2, q3, q4⟩ := q_pair hs
  obtain ⟨ν', r, kp', h14', hs', h9, h10⟩ := m_doesAgain (μ := ν) (k := k) (as := as) σ.2.2.2 (e5.trans a1) a3.1 (e6.trans a2) a3.2.1 (by rw [q2]; exact hi) hB0 (by rw [q2]; exact hB1) (by rw [e2]; exact a3.2.2.1) (by omega) (by omega) has0 has1 (by rw [e8]; exact ha) (by rw [e4, e8, q2]; exact hc)
  rw [e2, e4, e8, ← q1] at hs'
  rw [e2, e8, ← q1] at h9 h10
  exact ⟨ν', r, kp.tr kp', h14', hs', h9, h10⟩
theorem m_worksOut {m dl a : Nat} {μ : ZMem} (h : m_cf m dl μ) (ha : μ 0 11 = a) (hj : q_jo m dl (μ 2) (μ 4) (μ 3) (μ 8) a) :
    ∃ μ', F_Model_worksOut μ = some (.inr none, μ') ∧ m_kp μ μ' ∧ m_cf m dl μ' ∧ (μ' 5, μ' 6, μ' 7, (q_run m (μ 2) (μ 4) (μ 3) (μ 8) a).2.2.2) = q_run m (μ 2) (μ 4) (μ 3) (μ 8) a ∧ (∀ k : Nat, k < a → μ' 9 k = q_jt (μ 2) (μ 8) k (q_run m (μ 2) (μ 4) (μ 3) (μ 8) k) ∧ μ' 10 k = q_jh (μ 2) (μ 8) k (q_run m (μ 2) (μ 4) (μ 3) (μ 8) k)) := by
  obtain ⟨μ1, r1, kp1, h01, h91, h101, hs1⟩ := m_anewS h
  have hf := h.2.2.1
  have h60 := hj.1
  have h14 : μ1 0 14 = 60 := by rw [h01]; exact h.2.2.2.2.2.2
  unfold F_Model_worksOut
  rw [r1]
  simp only [↓zC_V]
  obtain ⟨⟨v, ν⟩, e, j, rfl, hjj, kp, h14', hs, h9⟩ := q_loop (L := fun n (a : Int × ZMem) => L_Model_worksOut_6 (fun μ6 => some (.inr none, μ6)) n a.1 a.2) (P := fun k b => ∃ j : Nat, b.1 = j ∧ j + k = a ∧ m_kp μ b.2 ∧ b.2 0 14 = 60 ∧ (b.2 5, b.2 6, b.2 7, (q_run m (μ 2) (μ 4) (μ 3) (μ 8) j).2.2.2) = q_run m (μ 2) (μ 4) (μ 3) (μ 8) j ∧ ∀ k : Nat, k < j → b.2 9 k = q_jt (μ 2) (μ 8) k (q_run m (μ 2) (μ 4) (μ 3) (μ 8) k) ∧ b.2 10 k = q_jh (μ 2) (μ 8) k (q_run m (μ 2) (μ 4) (μ 3) (μ 8) k)) (fun n k b hb => by
      obtain ⟨v, ν⟩ := b
      obtain ⟨j, rfl, hjj, kp, h14', hs, h9⟩ := hb
      simp only [] at kp h14' hs h9 ⊢
      have e11 : ν 0 11 = a := kp.at.2.2.2.2.2.2.2.trans ha
      obtain ⟨i1, i2⟩ := q_run_inv hf hj j (by omega)
      have hq := i1.2.2.2.1.2.2.2.2.1
      obtain ⟨ν', r, kp', h14'', hs', g9, g10⟩ := m_jstep (k := j) (as := j) h kp h14' hs i1 (by omega) (by omega) (by omega) (by omega) (by omega) (hj.2 j (by omega)).1 (hj.2 j (by omega)).2
      refine ⟨(j + 1, ν'), ?_, j + 1, rfl, by omega, kp', h14'', hs', fun k hk => ?_⟩
      · simp (disch := omega) only [L_Model_worksOut_6, Int.add_zero, Int.mul_zero, Int.reduceMul, Int.reduceAdd, Int.mul_one, Int.tdiv_eq_ediv_of_nonneg, Int.tmod_eq_emod_of_nonneg, ↓reduceIte, ↓zLet_eq, ↓zRd_ok, ↓zWr_ok, ↓zC_V, ↓zC_I, ↓zC_J, zUp_at, zUp_ne, q_up_at, q_up_ne, w32_of, w64_of, q_le_T, q_le_F, q_lt_T, q_lt_F, q_eq_T, q_eq_F, true_or, or_true, or_false, false_or, false_and, and_false, r]
      · simp only []
        rw [g9, g10]
        by_cases ek : k = j
        · subst ek
          rw [q_up_at, q_up_at]
          exact ⟨rfl, rfl⟩
        · rw [q_up_ne (by omega), q_up_ne (by omega)]
          exact h9 k (by omega)) a zN (0, μ1) ⟨0, rfl, by omega, kp1, h14, hs1, fun k hk => by omega⟩ (Nat.le_of_lt (zN_gt (by omega)))
  simp only [] at e kp h14' hs h9
  obtain rfl : j = a := by omega
  have e11 : ν 0 11 = j := kp.at.2.2.2.2.2.2.2.trans ha
  obtain ⟨i1, i2⟩ := q_run_inv hf hj j (by omega)
  obtain ⟨q1, q2, q3, q4⟩ := q_pair hs
  refine ⟨ν, ?_, kp, kp.cf h h14' (by rw [q2]; exact i1.2.2.2.2) (by rw [q3]; exact i2.1) (by rw [q4]; exact i2.2), hs, h9⟩
  rw [e]
  obtain ⟨n, hn⟩ : ∃ n, zN - j = n + 1 := ⟨zN - j - 1, by have := zN_gt (m := j) (by omega); omega⟩
  rw [hn]
  simp (disch := omega) only [L_Model_worksOut_6, Int.add_zero, Int.mul_zero, Int.reduceMul, Int.reduceAdd, Int.mul_one, Int.tdiv_eq_ediv_of_nonneg, Int.tmod_eq_emod_of_nonneg, ↓reduceIte, ↓zLet_eq, ↓zRd_ok, ↓zWr_ok, ↓zC_V, ↓zC_I, ↓zC_J, zUp_at, zUp_ne, q_up_at, q_up_ne, w32_of, w64_of, q_le_T, q_le_F, q_lt_T, q_lt_F, q_eq_T, q_eq_F, true_or, or_true, or_false, false_or, false_and, and_false]
theorem m_worksOutTo {m dl a b : Nat} {μ : ZMem} (h : m_cf m dl μ) (hj : q_jo m dl (μ 2) (μ 4) (μ 3) (μ 8) a) (hb : b ≤ a) :
    ∃ μ', F_Model_worksOutTo b μ = some (.inr none, μ') ∧ m_kp μ μ' ∧ m_cf m dl μ' ∧ (μ' 5, μ' 6, μ' 7, (q_run m (μ 2) (μ 4) (μ 3) (μ 8) b).2.2.2) = q_run m (μ 2) (μ 4) (μ 3) (μ 8) b := by
  obtain ⟨μ1, r1, kp1, h01, h91, h101, hs1⟩ := m_anewS h
  have hf := h.2.2.1
  have h60 := hj.1
  have h14 : μ1 0 14 = 60 := by rw [h01]; exact h.2.2.2.2.2.2
  unfold F_Model_worksOutTo
  rw [r1]
  simp only [↓zC_V]
  obtain ⟨⟨v, ν⟩, e, j, rfl, hjj, kp, h14', hs⟩ := q_loop (L := fun n (a : Int × ZMem) => L_Model_worksOutTo_6 b (fun μ6 => some (.inr none, μ6)) n a.1 a.2) (P := fun k c => ∃ j : Nat, c.1 = j ∧ j + k = b ∧ m_kp μ c.2 ∧ c.2 0 14 = 60 ∧ (c.2 5, c.2 6, c.2 7, (q_run m (μ 2) (μ 4) (μ 3) (μ 8) j).2.2.2) = q_run m (μ 2) (μ 4) (μ 3) (μ 8) j) (fun n k c hc => by
      obtain ⟨v, ν⟩ := c
      obtain ⟨j, rfl, hjj, kp, h14', hs⟩ := hc
      simp only [] at kp h14' hs ⊢
      obtain ⟨i1, i2⟩ := q_run_inv hf hj j (by omega)
      have hq := i1.2.2.2.1.2.2.2.2.1
      obtain ⟨ν', r, kp', h14'', hs', g9, g10⟩ := m_jstep (k := j) (as := 60) h kp h14' hs i1 (by omega) (by omega) (by omega) (by omega) (by omega) (hj.2 j (by omega)).1 (hj.2 j (by omega)).2
      refine ⟨(j + 1, ν'), ?_, j + 1, rfl, by omega, kp', h14'', hs'⟩
      simp (disch := omega) only [L_Model_worksOutTo_6, Int.add_zero, Int.mul_zero, Int.reduceMul, Int.reduceAdd, Int.mul_one, Int.tdiv_eq_ediv_of_nonneg, Int.tmod_eq_emod_of_nonneg, ↓reduceIte, ↓zLet_eq, ↓zRd_ok, ↓zWr_ok, ↓zC_V, ↓zC_I, ↓zC_J, zUp_at, zUp_ne, q_up_at, q_up_ne, w32_of, w64_of, q_le_T, q_le_F, q_lt_T, q_lt_F, q_eq_T, q_eq_F, true_or, or_true, or_false, false_or, false_and, and_false, r]) b zN (0, μ1) ⟨0, rfl, by omega, kp1, h14, hs1⟩ (Nat.le_of_lt (zN_gt (by omega)))
  simp only [] at e kp h14' hs
  obtain rfl : j = b := by omega
  obtain ⟨i1, i2⟩ := q_run_inv hf hj j (by omega)
  obtain ⟨q1, q2, q3, q4⟩ := q_pair hs
  refine ⟨ν, ?_, kp, kp.cf h h14' (by rw [q2]; exact i1.2.2.2.2) (by rw [q3]; exact i2.1) (by rw [q4]; exact i2.2), hs⟩
  rw [e]
  obtain ⟨n, hn⟩ : ∃ n, zN - j = n + 1 := ⟨zN - j - 1, by have := zN_gt (m := j) (by omega); omega⟩
  rw [hn]
  simp (disch := omega) only [L_Model_worksOutTo_6, Int.add_zero, Int.mul_zero, Int.reduceMul, Int.reduceAdd, Int.mul_one, Int.tdiv_eq_ediv_of_nonneg, Int.tmod_eq_emod_of_nonneg, ↓reduceIte, ↓zLet_eq, ↓zRd_ok, ↓zWr_ok, ↓zC_V, ↓zC_I, ↓zC_J, zUp_at, zUp_ne, q_up_at, q_up_ne, w32_of, w64_of, q_le_T, q_le_F, q_lt_T, q_lt_F, q_eq_T, q_eq_F, true_or, or_true, or_false, false_or, false_and, and_false]
/-- the journal without an act: what can't be then is left out -/
def q_wo (m dl : Nat) (tm ex pr J : Int → Int) (k : Int) : Nat → QS
  | 0 => q_0 m pr
  | j + 1 => if (j : Int) ≠ k ∧ q_jc m dl ex J j (q_wo m dl tm ex pr J k j).1 = 1 then q_jd m tm ex J j (q_wo m dl tm ex pr J k j) else q_wo m dl tm ex pr J k j
/-- two acts change places; none: one can't be then -/
def q_its (k j : Int) : Int := if j = k then k + 1 else if j = k + 1 then k else j
def q_sw (m dl : Nat) (tm ex pr J : Int → Int) (k : Int) : Nat → Option QS
  | 0 => some (q_0 m pr)
  | j + 1 => match q_sw m dl tm ex pr J k j with
    | none => none
    | some σ => if q_jc m dl ex J (q_its k j) σ.1 = 1 then some (q_jd m tm ex J (q_its k j) σ) else none
def q_ok6 (m dl : Nat) (k : Nat) (σ : QS) : Prop := q_inv m dl (6 * k + 2 * σ.1 90) σ.1 ∧ q_zz σ
theorem q_ok6.step {m dl : Nat} {tm ex pr J : Int → Int} {k : Nat} {i : Int} {σ : QS} (hf : q_fu m dl tm ex pr) (h : q_ok6 m dl k σ) (hk : k < 60) (ha : q_ja m dl J i) (hc : q_jc m dl ex J i σ.1 = 1) : q_ok6 m dl (k + 1) (q_jd m tm ex J i σ) := by
  obtain ⟨h1, h2⟩ := h
  have hq := h1.2.2.2.1.2.2.2.2.1
  obtain ⟨h3, h4⟩ := h1.act (tm := tm) hf.1 hf.2.1 hf.2.2.1 (by omega) (by omega) ha hc
  refine ⟨h3.mono hf.1 ?_, h2.act hf.1⟩
  unfold q_jd
  omega
theorem q_ok6.mono {m dl k : Nat} {σ : QS} (h : q_ok6 m dl k σ) (h6 : m ≤ 6) : q_ok6 m dl (k + 1) σ := ⟨h.1.mono h6 (by omega), h.2⟩
theorem q_ok6_0 {m dl : Nat} {tm ex pr : Int → Int} (hf : q_fu m dl tm ex pr) : q_ok6 m dl 0 (q_0 m pr) := by
  refine ⟨?_, fun _ _ => rfl, fun _ _ => rfl⟩
  have : (q_0 m pr).1 90 = 0 := q_s00_90 m hf.1 pr
  rw [this]
  exact (q_inv_0 hf).mono hf.1 (by omega)
theorem q_wo_ok {m dl a : Nat} {tm ex pr J : Int → Int} {k : Int} (hf : q_fu m dl tm ex pr) (ha : a ≤ 60) (hj : ∀ j : Nat, j < a → q_ja m dl J j) : ∀ j : Nat, j ≤ a → q_ok6 m dl j (q_wo m dl tm ex pr J k j)
  | 0, _ => q_ok6_0 hf
  | j + 1, h => by
    have ih := q_wo_ok (k := k) hf ha hj j (by omega)
    rw [q_wo]
    split
    · rename_i hc
      exact ih.step hf (by omega) (hj j (by omega)) hc.2
    · exact ih.mono hf.1
theorem q_sw_ok {m dl a : Nat} {tm ex pr J : Int → Int} {k : Nat} (hf : q_fu m dl tm ex pr) (ha : a ≤ 60) (hk : k + 1 < a) (hj : ∀ j : Nat, j < a → q_ja m dl J j) : ∀ (j : Nat) (σ : QS), j ≤ a → q_sw m dl tm ex pr J k j = some σ → q_ok6 m dl j σ
  | 0, σ, _, e => by
    cases e
    exact q_ok6_0 hf
  | j + 1, σ, h, e => by
    rw [q_sw] at e
    split at e
    · cases e
    · rename_i τ e1
      have ih := q_sw_ok hf ha hk hj j τ (by omega) e1
      split at e
      · rename_i hc
        cases e
        refine ih.step hf (by omega) ?_ hc
        unfold q_its
        split
        · exact hj (k + 1) (by omega)
        · split
          · exact hj k (by omega)
          · exact hj j (by omega)
      · cases e
