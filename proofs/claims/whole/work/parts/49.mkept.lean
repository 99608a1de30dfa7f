/-! ===== the reference: without an act, swapped; aside and back ===== -/
theorem q_ite01 {c : Prop} [Decidable c] {a b : Int} (ha : a = 0 ∨ a = 1) (hb : b = 0 ∨ b = 1) : (if c then a else b) = 0 ∨ (if c then a else b) = 1 := by
  split
  · exact ha
  · exact hb
theorem q_can_01 {m dl : Nat} {ex : Int → Int} {kd who sum ot : Int} {s : Int → Int} : q_can m dl ex kd who sum ot s = 0 ∨ q_can m dl ex kd who sum ot s = 1 := by
  have hacl : ∀ n, q_acl s n = 0 ∨ q_acl s n = 1 := by
    intro n
    induction n with
    | zero => exact Or.inr rfl
    | succ n ih =>
      rw [q_acl]
      split
      · exact Or.inl rfl
      · exact ih
  unfold q_can q_cmv
  exact q_ite01 (Or.inl rfl) (q_ite01 (Or.inl rfl) (q_ite01 (q_ite01 (q_ite01 (Or.inl rfl) (Or.inr rfl)) (Or.inl rfl)) (q_ite01 (q_ite01 (Or.inr rfl) (Or.inl rfl)) (q_ite01 (q_ite01 (Or.inr rfl) (Or.inl rfl)) (q_ite01 (Or.inr rfl) (q_ite01 (q_ite01 (Or.inl rfl) (Or.inr rfl)) (q_ite01 (q_ite01 (Or.inr rfl) (Or.inl rfl)) (q_ite01 (hacl dl) (q_ite01 (q_ite01 (Or.inl rfl) (q_ite01 (Or.inl rfl) (q_ite01 (Or.inr rfl) (Or.inl rfl)))) (Or.inl rfl))))))))))
theorem m_canAgain {m dl : Nat} {B : Int} {μ : ZMem} {k : Int} (hm : μ 0 5 = m) (h6 : m ≤ 6) (hdd : μ 0 6 = dl) (hdl : dl ≤ 6) (hi : q_inv m dl B (μ 5)) (hk0 : 0 ≤ k) (hk1 : k < 60) (ha : q_ja m dl (μ 8) k) : F_Model_canAgain k μ = some (.inr (some (zI (q_jc m dl (μ 4) (μ 8) k (μ 5)))), μ) := by
  unfold F_Model_canAgain
  have e := m_canBe hm h6 hdd hdl hi ha
  simp (disch := omega) only [↓zRd_ok, e, ↓zC_I, if_pos (q_can_01 (m := m) (dl := dl) (ex := μ 4) (kd := μ 8 (5 * k)) (who := μ 8 (5 * k + 1)) (sum := μ 8 (5 * k + 2)) (ot := μ 8 (5 * k + 4)) (s := μ 5))]
  rfl
/-- at rest -/
def m_at (m dl a : Nat) (μ : ZMem) : Prop := m_cf m dl μ ∧ μ 0 11 = a ∧ q_jo m dl (μ 2) (μ 4) (μ 3) (μ 8) a ∧ (μ 5, μ 6, μ 7, (q_run m (μ 2) (μ 4) (μ 3) (μ 8) a).2.2.2) = q_run m (μ 2) (μ 4) (μ 3) (μ 8) a ∧ (∀ k : Nat, k < a → μ 9 k = q_jt (μ 2) (μ 8) k (q_run m (μ 2) (μ 4) (μ 3) (μ 8) k) ∧ μ 10 k = q_jh (μ 2) (μ 8) k (q_run m (μ 2) (μ 4) (μ 3) (μ 8) k))
theorem m_worksOutS {m dl a : Nat} {μ : ZMem} (h : m_cf m dl μ) (ha : μ 0 11 = a) (hj : q_jo m dl (μ 2) (μ 4) (μ 3) (μ 8) a) : ∃ μ', F_Model_worksOut μ = some (.inr none, μ') ∧ m_kp μ μ' ∧ m_at m dl a μ' := by
  obtain ⟨μ', r, kp, cf, hs, h9⟩ := m_worksOut h ha hj
  obtain ⟨-, e2, e3, e4, e8, -, -, e11⟩ := kp.at
  refine ⟨μ', r, kp, cf, e11.trans ha, ?_, ?_, ?_⟩
  · rw [e2, e3, e4, e8]
    exact hj
  · rw [e2, e3, e4, e8]
    exact hs
  · rw [e2, e3, e4, e8]
    exact h9
theorem m_keeps {μ : ZMem} : F_Model_keeps μ = some (.inr (some (zJ (μ 5 86 - μ 5 89))), μ) := by
  unfold F_Model_keeps
  simp (disch := omega) only [Int.add_zero, Int.mul_zero, Int.reduceMul, Int.reduceAdd, Int.mul_one, Int.tdiv_eq_ediv_of_nonneg, Int.tmod_eq_emod_of_nonneg, ↓reduceIte, ↓zLet_eq, ↓zRd_ok, ↓zWr_ok, ↓zC_V, ↓zC_I, ↓zC_J, zUp_at, zUp_ne, q_up_at, q_up_ne, w32_of, w64_of, q_le_T, q_le_F, q_lt_T, q_lt_F, q_eq_T, q_eq_F, true_or, or_true, or_false, false_or, false_and, and_false]
theorem m_keptWithout {m dl a : Nat} {μ : ZMem} {k : Int} (h : m_cf m dl μ) (ha : μ 0 11 = a) (hj : q_jo m dl (μ 2) (μ 4) (μ 3) (μ 8) a) (hk0 : 0 ≤ k) (hk1 : k < 100) :
    ∃ μ', F_Model_keptWithout k μ = some (.inr (some (zJ ((q_wo m dl (μ 2) (μ 4) (μ 3) (μ 8) k a).1 86 - (q_wo m dl (μ 2) (μ 4) (μ 3) (μ 8) k a).1 89))), μ') ∧ m_kp μ μ' ∧ m_at m dl a μ' := by
  obtain ⟨μ1, r1, kp1, h01, h91, h101, hs1⟩ := m_anewS h
  have hf := h.2.2.1
  have h60 := hj.1
  have h14 : μ1 0 14 = 60 := by rw [h01]; exact h.2.2.2.2.2.2
  have ho := q_wo_ok (k := k) hf h60 (fun j hjj => (hj.2 j hjj).1)
  unfold F_Model_keptWithout
  rw [r1]
  simp only [↓zC_V]
  obtain ⟨⟨v, ν⟩, e, j, rfl, hjj, kp, h14', hs⟩ := q_loop (L := fun n (b : Int × ZMem) => L_Model_keptWithout_6 k (fun μ8 => zC (F_Model_keeps  μ8) (zkJ (fun x10 μ9 => zC (F_Model_worksOut  μ9) (zkV (fun μ11 => some (.inr (some (zJ x10)), μ11))) zX0)) zX0) n b.1 b.2) (P := fun i b => ∃ j : Nat, b.1 = j ∧ j + i = a ∧ m_kp μ b.2 ∧ b.2 0 14 = 60 ∧ (b.2 5, b.2 6, b.2 7, (q_wo m dl (μ 2) (μ 4) (μ 3) (μ 8) k j).2.2.2) = q_wo m dl (μ 2) (μ 4) (μ 3) (μ 8) k j) (fun n i b hb => by
      obtain ⟨v, ν⟩ := b
      obtain ⟨j, rfl, hjj, kp, h14', hs⟩ := hb
      simp only [] at kp h14' hs ⊢
      obtain ⟨-, e2, e3, e4, e8, e5, e6, e11⟩ := kp.at
      have e11' : ν 0 11 = a := e11.trans ha
      obtain ⟨q1, q2, q3, q4⟩ := q_pair hs
      obtain ⟨i1, i2⟩ := ho j (by omega)
      have hq := i1.2.2.2.1.2.2.2.2.1
      have hja := (hj.2 j (by omega)).1
      by_cases ek : (j : Int) = k
      · refine ⟨(j + 1, ν), ?_, j + 1, rfl, by omega, kp, h14', ?_⟩
        · simp (disch := omega) only [L_Model_keptWithout_6, J_Model_keptWithout_34, Int.add_zero, Int.mul_zero, Int.reduceMul, Int.reduceAdd, Int.mul_one, Int.tdiv_eq_ediv_of_nonneg, Int.tmod_eq_emod_of_nonneg, ↓reduceIte, ↓zLet_eq, ↓zRd_ok, ↓zWr_ok, ↓zC_V, ↓zC_I, ↓zC_J, zUp_at, zUp_ne, q_up_at, q_up_ne, w32_of, w64_of, q_le_T, q_le_F, q_lt_T, q_lt_F, q_eq_T, q_eq_F, true_or, or_true, or_false, false_or, false_and, and_false]
        · simp only []
          rw [q_wo, if_neg (fun hh => hh.1 ek)]
          exact hs
      · have ec := m_canAgain (μ := ν) (k := j) (e5.trans h.1) hf.1 (e6.trans h.2.1) hf.2.1 (by rw [q2]; exact i1) (by omega) (by omega) (by rw [e8]; exact hja)
        rw [e4, e8, q2] at ec
        rcases q_can_01 (m := m) (dl := dl) (ex := μ 4) (kd := μ 8 (5 * j)) (who := μ 8 (5 * j + 1)) (sum := μ 8 (5 * j + 2)) (ot := μ 8 (5 * j + 4)) (s := (q_wo m dl (μ 2) (μ 4) (μ 3) (μ 8) k j).1) with hc | hc
        · have hc' : q_jc m dl (μ 4) (μ 8) j (q_wo m dl (μ 2) (μ 4) (μ 3) (μ 8) k j).1 = 0 := hc
          rw [hc'] at ec
          refine ⟨(j + 1, ν), ?_, j + 1, rfl, by omega, kp, h14', ?_⟩
          · simp (disch := omega) only [L_Model_keptWithout_6, J_Model_keptWithout_34, Int.add_zero, Int.mul_zero, Int.reduceMul, Int.reduceAdd, Int.mul_one, Int.tdiv_eq_ediv_of_nonneg, Int.tmod_eq_emod_of_nonneg, ↓reduceIte, ↓zLet_eq, ↓zRd_ok, ↓zWr_ok, ↓zC_V, ↓zC_I, ↓zC_J, zUp_at, zUp_ne, q_up_at, q_up_ne, w32_of, w64_of, q_le_T, q_le_F, q_lt_T, q_lt_F, q_eq_T, q_eq_F, true_or, or_true, or_false, false_or, false_and, and_false, ec]
          · simp only []
            rw [q_wo, if_neg (fun hh => by rw [hc'] at hh; exact absurd hh.2 (by decide))]
            exact hs
        · have hc' : q_jc m dl (μ 4) (μ 8) j (q_wo m dl (μ 2) (μ 4) (μ 3) (μ 8) k j).1 = 1 := hc
          rw [hc'] at ec
          obtain ⟨ν', r, kp', h14'', hs', g9, g10⟩ := m_jstep (k := j) (as := 60) h kp h14' hs i1 (by omega) (by omega) (by omega) (by omega) (by omega) hja hc'
          refine ⟨(j + 1, ν'), ?_, j + 1, rfl, by omega, kp', h14'', ?_⟩
          · simp (disch := omega) only [L_Model_keptWithout_6, J_Model_keptWithout_34, Int.add_zero, Int.mul_zero, Int.reduceMul, Int.reduceAdd, Int.mul_one, Int.tdiv_eq_ediv_of_nonneg, Int.tmod_eq_emod_of_nonneg, ↓reduceIte, ↓zLet_eq, ↓zRd_ok, ↓zWr_ok, ↓zC_V, ↓zC_I, ↓zC_J, zUp_at, zUp_ne, q_up_at, q_up_ne, w32_of, w64_of, q_le_T, q_le_F, q_lt_T, q_lt_F, q_eq_T, q_eq_F, true_or, or_true, or_false, false_or, false_and, and_false, ec, r]
          · simp only []
            rw [q_wo, if_pos ⟨ek, hc'⟩]
            exact hs') a zN (0, μ1) ⟨0, rfl, by omega, kp1, h14, hs1⟩ (Nat.le_of_lt (zN_gt (by omega)))
  simp only [] at e kp h14' hs
  obtain rfl : j = a := by omega
  obtain ⟨-, e2, e3, e4, e8, e5, e6, e11⟩ := kp.at
  have e11' : ν 0 11 = j := e11.trans ha
  obtain ⟨i1, i2⟩ := ho j (by omega)
  obtain ⟨q1, q2, q3, q4⟩ := q_pair hs
  rw [e]
  obtain ⟨n, hn⟩ : ∃ n, zN - j = n + 1 := ⟨zN - j - 1, by have := zN_gt (m := j) (by omega); omega⟩
  rw [hn]
  simp (disch := omega) only [L_Model_keptWithout_6, Int.add_zero, Int.mul_zero, Int.reduceMul, Int.reduceAdd, Int.mul_one, Int.tdiv_eq_ediv_of_nonneg, Int.tmod_eq_emod_of_nonneg, ↓reduceIte, ↓zLet_eq, ↓zRd_ok, ↓zWr_ok, ↓zC_V, ↓zC_I, ↓zC_J, zUp_at, zUp_ne, q_up_at, q_up_ne, w32_of, w64_of, q_le_T, q_le_F, q_lt_T, q_lt_F, q_eq_T, q_eq_F, true_or, or_true, or_false, false_or, false_and, and_false, m_keeps]
  have cf : m_cf m dl ν := kp.cf h h14' (by rw [q2]; exact i1.2.2.2.2) (by rw [q3]; exact i2.1) (by rw [q4]; exact i2.2)
  obtain ⟨μ', r, kp', at'⟩ := m_worksOutS cf e11' (by rw [e2, e3, e4, e8]; exact hj)
  rw [r]
  simp only [↓zC_V]
  exact ⟨μ', by rw [q2], kp.tr kp', at'⟩
theorem m_swapped_loop {m dl a : Nat} {μ μ1 : ZMem} {k : Nat} {K : Int → ZMem → Option ZRes} (h : m_cf m dl μ) (ha : μ 0 11 = a) (hj : q_jo m dl (μ 2) (μ 4) (μ 3) (μ 8) a) (hk : k + 1 < a) (kp1 : m_kp μ μ1) (h14 : μ1 0 14 = 60) (hs1 : (μ1 5, μ1 6, μ1 7, (fun _ => 0)) = q_0 m (μ 3)) :
    ∃ v ν, L_Model_swapped_42 k K zN 1 0 μ1 = K v ν ∧ m_kp μ ν ∧ m_cf m dl ν ∧ ((v = 0 ∧ q_sw m dl (μ 2) (μ 4) (μ 3) (μ 8) k a = none) ∨ (v = 1 ∧ ∃ σ, q_sw m dl (μ 2) (μ 4) (μ 3) (μ 8) k a = some σ ∧ (ν 5, ν 6, ν 7, σ.2.2.2) = σ)) := by
  have hf := h.2.2.1
  have h60 := hj.1
  have nn : ∀ (i j : Nat), q_sw m dl (μ 2) (μ 4) (μ 3) (μ 8) k j = none → q_sw m dl (μ 2) (μ 4) (μ 3) (μ 8) k (j + i) = none := by
    intro i
    induction i with
    | zero => intro j hn; exact hn
    | succ i ih =>
      intro j hn
      rw [← Nat.add_assoc, q_sw, ih j hn]
  have key : ∀ (i n j : Nat) (ν : ZMem) (σ : QS), j + i = a → i < n → m_kp μ ν → ν 0 14 = 60 → (ν 5, ν 6, ν 7, σ.2.2.2) = σ → q_sw m dl (μ 2) (μ 4) (μ 3) (μ 8) k j = some σ →
      ∃ v ν', L_Model_swapped_42 k K n 1 j ν = K v ν' ∧ m_kp μ ν' ∧ m_cf m dl ν' ∧ ((v = 0 ∧ q_sw m dl (μ 2) (μ 4) (μ 3) (μ 8) k a = none) ∨ (v = 1 ∧ ∃ σ, q_sw m dl (μ 2) (μ 4) (μ 3) (μ 8) k a = some σ ∧ (ν' 5, ν' 6, ν' 7, σ.2.2.2) = σ)) := by
    intro i
    induction i with
    | zero =>
      intro n j ν σ hjj hn kp h14' hs e
      obtain ⟨n, rfl⟩ : ∃ i, n = i + 1 := ⟨n - 1, by omega⟩
      obtain rfl : j = a := by omega
      obtain ⟨-, e2, e3, e4, e8, e5, e6, e11⟩ := kp.at
      have e11' : ν 0 11 = j := e11.trans ha
      obtain ⟨q1, q2, q3, q4⟩ := q_pair hs
      obtain ⟨i1, i2⟩ := q_sw_ok hf h60 hk (fun j hjj => (hj.2 j hjj).1) j σ (Nat.le_refl _) e
      refine ⟨1, ν, ?_, kp, kp.cf h h14' (by rw [q2]; exact i1.2.2.2.2) (by rw [q3]; exact i2.1) (by rw [q4]; exact i2.2), Or.inr ⟨rfl, σ, e, hs⟩⟩
      simp (disch := omega) only [L_Model_swapped_42, Int.add_zero, Int.mul_zero, Int.reduceMul, Int.reduceAdd, Int.mul_one, Int.tdiv_eq_ediv_of_nonneg, Int.tmod_eq_emod_of_nonneg, ↓reduceIte, ↓zLet_eq, ↓zRd_ok, ↓zWr_ok, ↓zC_V, ↓zC_I, ↓zC_J, zUp_at, zUp_ne, q_up_at, q_up_ne, w32_of, w64_of, q_le_T, q_le_F, q_lt_T, q_lt_F, q_eq_T, q_eq_F, true_or, or_true, or_false, false_or, false_and, and_false]
    | succ i ih =>
      intro n j ν σ hjj hn kp h14' hs e
      obtain ⟨n, rfl⟩ : ∃ i, n = i + 1 := ⟨n - 1, by omega⟩
      obtain ⟨-, e2, e3, e4, e8, e5, e6, e11⟩ := kp.at
      have e11' : ν 0 11 = a := e11.trans ha
      obtain ⟨q1, q2, q3, q4⟩ := q_pair hs
      obtain ⟨i1, i2⟩ := q_sw_ok hf h60 hk (fun j hjj => (hj.2 j hjj).1) j σ (by omega) e
      have hq := i1.2.2.2.1.2.2.2.2.1
      have eit : L_Model_swapped_42 k K (n + 1) 1 j ν = J_Model_swapped_77 (fun v2 v3 μ => L_Model_swapped_42 k K n v2 v3 μ) K k j (q_its k j) ν := by
        unfold q_its
        by_cases h1 : (j : Int) = k
        · simp (disch := omega) only [L_Model_swapped_42, Int.add_zero, Int.mul_zero, Int.reduceMul, Int.reduceAdd, Int.mul_one, Int.tdiv_eq_ediv_of_nonneg, Int.tmod_eq_emod_of_nonneg, ↓reduceIte, ↓zLet_eq, ↓zRd_ok, ↓zWr_ok, ↓zC_V, ↓zC_I, ↓zC_J, zUp_at, zUp_ne, q_up_at, q_up_ne, w32_of, w64_of, q_le_T, q_le_F, q_lt_T, q_lt_F, q_eq_T, q_eq_F, true_or, or_true, or_false, false_or, false_and, and_false]
        · by_cases h2 : (j : Int) = k + 1
          · simp (disch := omega) only [L_Model_swapped_42, Int.add_zero, Int.mul_zero, Int.reduceMul, Int.reduceAdd, Int.mul_one, Int.tdiv_eq_ediv_of_nonneg, Int.tmod_eq_emod_of_nonneg, ↓reduceIte, ↓zLet_eq, ↓zRd_ok, ↓zWr_ok, ↓zC_V, ↓zC_I, ↓zC_J, zUp_at, zUp_ne, q_up_at, q_up_ne, w32_of, w64_of, q_le_T, q_le_F, q_lt_T, q_lt_F, q_eq_T, q_eq_F, true_or, or_true, or_false, false_or, false_and, and_false]
          · simp (disch := omega) only [L_Model_swapped_42, Int.add_zero, Int.mul_zero, Int.reduceMul, Int.reduceAdd, Int.mul_one, Int.tdiv_eq_ediv_of_nonneg, Int.tmod_eq_emod_of_nonneg, ↓reduceIte, ↓zLet_eq, ↓zRd_ok, ↓zWr_ok, ↓zC_V, ↓zC_I, ↓zC_J, zUp_at, zUp_ne, q_up_at, q_up_ne, w32_of, w64_of, q_le_T, q_le_F, q_lt_T, q_lt_F, q_eq_T, q_eq_F, true_or, or_true, or_false, false_or, false_and, and_false]
      obtain ⟨t, ht, ht2⟩ : ∃ t : Nat, q_its k j = t ∧ t < a := by
        unfold q_its
        split
        · exact ⟨k + 1, by omega, by omega⟩
        · split
          · exact ⟨k, rfl, by omega⟩
          · exact ⟨j, rfl, by omega⟩
      have hja := (hj.2 t ht2).1
      have ec := m_canAgain (μ := ν) (k := t) (e5.trans h.1) hf.1 (e6.trans h.2.1) hf.2.1 (by rw [q2]; exact i1) (by omega) (by omega) (by rw [e8]; exact hja)
      rw [e4, e8, q2] at ec
      rw [eit, ht]
      rcases q_can_01 (m := m) (dl := dl) (ex := μ 4) (kd := μ 8 (5 * t)) (who := μ 8 (5 * t + 1)) (sum := μ 8 (5 * t + 2)) (ot := μ 8 (5 * t + 4)) (s := σ.1) with hc | hc
      · have hc' : q_jc m dl (μ 4) (μ 8) t σ.1 = 0 := hc
        rw [hc'] at ec
        have esw : q_sw m dl (μ 2) (μ 4) (μ 3) (μ 8) k (j + 1) = none := by
          rw [q_sw, e]
          simp only []
          rw [ht, if_neg (by rw [hc']; decide)]
        refine ⟨0, ν, ?_, kp, kp.cf h h14' (by rw [q2]; exact i1.2.2.2.2) (by rw [q3]; exact i2.1) (by rw [q4]; exact i2.2), Or.inl ⟨rfl, ?_⟩⟩
        · obtain ⟨n, rfl⟩ : ∃ i, n = i + 1 := ⟨n - 1, by omega⟩
          simp (disch := omega) only [J_Model_swapped_77, J_Model_swapped_98, Int.add_zero, Int.mul_zero, Int.reduceMul, Int.reduceAdd, Int.mul_one, Int.tdiv_eq_ediv_of_nonneg, Int.tmod_eq_emod_of_nonneg, ↓reduceIte, ↓zLet_eq, ↓zRd_ok, ↓zWr_ok, ↓zC_V, ↓zC_I, ↓zC_J, zUp_at, zUp_ne, q_up_at, q_up_ne, w32_of, w64_of, q_le_T, q_le_F, q_lt_T, q_lt_F, q_eq_T, q_eq_F, true_or, or_true, or_false, false_or, false_and, and_false, ec]
          by_cases hend : (a : Int) ≤ j + 1
          · simp (disch := omega) only [L_Model_swapped_42, Int.add_zero, Int.mul_zero, Int.reduceMul, Int.reduceAdd, Int.mul_one, Int.tdiv_eq_ediv_of_nonneg, Int.tmod_eq_emod_of_nonneg, ↓reduceIte, ↓zLet_eq, ↓zRd_ok, ↓zWr_ok, ↓zC_V, ↓zC_I, ↓zC_J, zUp_at, zUp_ne, q_up_at, q_up_ne, w32_of, w64_of, q_le_T, q_le_F, q_lt_T, q_lt_F, q_eq_T, q_eq_F, true_or, or_true, or_false, false_or, false_and, and_false]
          · simp (disch := omega) only [L_Model_swapped_42, Int.add_zero, Int.mul_zero, Int.reduceMul, Int.reduceAdd, Int.mul_one, Int.tdiv_eq_ediv_of_nonneg, Int.tmod_eq_emod_of_nonneg, ↓reduceIte, ↓zLet_eq, ↓zRd_ok, ↓zWr_ok, ↓zC_V, ↓zC_I, ↓zC_J, zUp_at, zUp_ne, q_up_at, q_up_ne, w32_of, w64_of, q_le_T, q_le_F, q_lt_T, q_lt_F, q_eq_T, q_eq_F, true_or, or_true, or_false, false_or, false_and, and_false]
        · have := nn (a - (j + 1)) (j + 1) esw
          rw [show j + 1 + (a - (j + 1)) = a by omega] at this
          exact this
      · have hc' : q_jc m dl (μ 4) (μ 8) t σ.1 = 1 := hc
        rw [hc'] at ec
        obtain ⟨ν', r, kp', h14'', hs', g9, g10⟩ := m_jstep (k := t) (as := 60) h kp h14' hs i1 (by omega) (by omega) (by omega) (by omega) (by omega) hja hc'
        have esw : q_sw m dl (μ 2) (μ 4) (μ 3) (μ 8) k (j + 1) = some (q_jd m (μ 2) (μ 4) (μ 8) t σ) := by
          rw [q_sw, e]
          simp only []
          rw [ht, if_pos hc']
        obtain ⟨v, ν2, r2, rest⟩ := ih n (j + 1) ν' _ (by omega) (by omega) kp' h14'' hs' esw
        refine ⟨v, ν2, ?_, rest⟩
        rw [← r2]
        simp (disch := omega) only [J_Model_swapped_77, J_Model_swapped_98, Int.add_zero, Int.mul_zero, Int.reduceMul, Int.reduceAdd, Int.mul_one, Int.tdiv_eq_ediv_of_nonneg, Int.tmod_eq_emod_of_nonneg, ↓reduceIte, ↓zLet_eq, ↓zRd_ok, ↓zWr_ok, ↓zC_V, ↓zC_I, ↓zC_J, zUp_at, zUp_ne, q_up_at, q_up_ne, w32_of, w64_of, q_le_T, q_le_F, q_lt_T, q_lt_F, q_eq_T, q_eq_F, true_or, or_true, or_false, false_or, false_and, and_false, ec, r]
        rfl
  exact key a zN 0 μ1 (q_0 m (μ 3)) (by omega) (zN_gt (by omega)) kp1 h14 hs1 rfl
