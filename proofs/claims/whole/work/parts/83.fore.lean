/-! ===== the books alone, a quarter on; waiting in the reference ===== -/
abbrev plF : List Nat := [97, 98, 99, 100, 101, 102]
abbrev plFN : List Nat := [97, 98, 99, 100, 101, 102, 14, 15, 16, 17, 18, 19]
abbrev plOF : List Nat := [103, 104, 105, 106, 107, 108, 97, 98, 99, 100, 101, 102]
section FP1
variable {m dl a : Nat} {B d sum : Int} {tm ex s s' : Int → Int} {σ : QS} {κ μ ν : ZMem} {x y z : Int}
theorem q_qb_hi {fee : Int} (h : ∀ k, 30 ≤ k → s' k = s k) : ∀ k, 30 ≤ k → q_qb tm fee s' k = q_qb tm fee s k := fun k hk => by
  unfold q_qb q_pf
  rw [h k hk]
  by_cases c : 54 ≤ k
  · rw [h (k - 1) (by omega)]
  · rw [if_neg (show ¬ k = 54 by omega), if_neg (show ¬ (k = 58 ∧ tm 3 = 1) by omega), if_neg (show ¬ k = 54 by omega), if_neg (show ¬ (k = 58 ∧ tm 3 = 1) by omega), if_neg (show ¬ (54 ≤ k ∧ k < 86 ∧ (k - 54) % 4 = 1) by omega), if_neg (show ¬ (54 ≤ k ∧ k < 86 ∧ (k - 54) % 4 = 1) by omega)]
theorem q_qt_hi (h6 : m ≤ 6) : ∀ k, 30 ≤ k → (q_qt m tm ex σ).1 k = q_qb tm (q_fee m tm σ.1) σ.1 k := fun k hk => by
  show q_qb tm (q_fee m tm σ.1) (q_py m _ σ.1) k = _
  exact q_qb_hi (fun k hk => q_py_hi (by omega)) k hk
theorem q_qb_lo {fee k : Int} (hk : k < 54) : q_qb tm fee s k = s k := by
  unfold q_qb q_pf
  rw [if_neg (by omega), if_neg (by omega), if_neg (by omega), if_neg (by omega)]
theorem q_qt_com (h6 : m ≤ 6) : q_sm (fun i => (q_qt m tm ex σ).1 (5 * i)) m = q_sm (fun i => σ.1 (5 * i)) m := q_sm_congr (fun i hi => by
  show q_qb tm (q_fee m tm σ.1) (q_py m _ σ.1) _ = _
  rw [q_qb_lo (by omega), q_py_0])
theorem q_qt_unc (hi : q_iI m B σ.1) (h6 : m ≤ 6) (ht : q_tm tm) : q_sm (fun i => (q_qt m tm ex σ).1 (5 * i + 1)) m = q_sm (fun i => σ.1 (5 * i + 1)) m - q_fee m tm σ.1 := by
  have hf := q_fee_in (tm := tm) hi h6 ht
  have e : q_sm (fun i => (q_qt m tm ex σ).1 (5 * i + 1)) m = q_sm (fun i => σ.1 (5 * i + 1)) m - q_sm (q_shr m (q_wp ex σ.1 (-1)) (q_fee m tm σ.1)) m := by
    rw [← q_sm_sub]
    refine q_sm_congr (fun i hi' => ?_)
    show q_qb tm (q_fee m tm σ.1) (q_py m _ σ.1) _ = _
    rw [q_qb_lo (by omega), q_py_1 (by omega) (by omega)]
  rw [e]
  by_cases hA : 0 < q_sm (q_wp ex σ.1 (-1)) m
  · rw [q_shr_sum hA]
  · have eA : q_sm (q_wp ex σ.1 (-1)) m = q_sm (fun i => σ.1 (5 * i + 1)) m := q_wp_all
    have hA0 : 0 ≤ q_sm (q_wp ex σ.1 (-1)) m := q_sm_nonneg (fun i hi' => (q_wp_nn hi i hi').1)
    rw [q_sm_zero (fun i hi' => q_shr_none (by omega) hA0 i)]
    omega
/-- the class's forecast: the books a quarter on -/
theorem k_fore {σ0 : QS} {n : Nat} (hs : s_T m dl tm ex σ0 (zVw plN κ)) (h0 : q_inv m dl B σ0.1) (hB0 : 0 ≤ B) (hB1 : B + 2 * (200 - σ0.1 90) ≤ 760) (h6 : m ≤ 6) (hdl : dl ≤ 6) (ht : q_tm tm) (hn : σ0.1 90 + n ≤ 200) (hb : b_bk dl tm (q_wn m tm ex n σ0).1 (zVw plF κ)) :
    (∀ G X, zCm plN κ (F_State_fullFee (zVw plN κ)) (zkJ G) X = G (tm 6 * q_sm (fun i => (q_wn m tm ex n σ0).1 (5 * i)) m / 10000) κ) ∧ zminJ (tm 6 * q_sm (fun i => (q_wn m tm ex n σ0).1 (5 * i)) m / 10000) (q_sm (fun i => (q_wn m tm ex n σ0).1 (5 * i + 1)) m) = q_fee m tm (q_wn m tm ex n σ0).1 ∧ q_sm (fun i => (q_wn m tm ex n σ0).1 (5 * i + 1)) m - q_fee m tm (q_wn m tm ex n σ0).1 = q_sm (fun i => (q_wn m tm ex (n + 1) σ0).1 (5 * i + 1)) m ∧ ∃ κ', (∀ K X, zCm plF κ (F_Books_pass (q_fee m tm (q_wn m tm ex n σ0).1) (zVw plF κ)) (zkV K) X = K κ') ∧ b_bk dl tm (q_wn m tm ex (n + 1) σ0).1 (zVw plF κ') ∧ (∀ c, c < 97 ∨ 103 ≤ c → κ' c = κ c) := by
  have ec : ∀ k : Nat, q_sm (fun i => (q_wn m tm ex k σ0).1 (5 * i)) m = q_sm (fun i => σ0.1 (5 * i)) m := fun k => by
    induction k with
    | zero => rw [q_wn]
    | succ k ih => rw [q_wn, q_qt_com h6, ih]
  obtain ⟨hi, h90⟩ := q_inv.wn (tm := tm) (ex := ex) h0 h6 hdl ht hB0 hB1 n hn
  have hfe := q_fee_in (tm := tm) hi.1 h6 ht
  have b3 : 0 ≤ q_sm (fun i => (q_wn m tm ex n σ0).1 (5 * i)) m := q_sm_nonneg (fun i hii => by have := hi.1 i hii; omega)
  have b4 : q_sm (fun i => (q_wn m tm ex n σ0).1 (5 * i)) m ≤ 6 * 9999 := q_sm_bd6 h6 (by decide) (fun i hii => by have := hi.1 i hii; omega)
  have b5 : 0 ≤ q_sm (fun i => (q_wn m tm ex n σ0).1 (5 * i + 1)) m := q_sm_nonneg (fun i hii => by have := hi.1 i hii; omega)
  have b6 : q_sm (fun i => (q_wn m tm ex n σ0).1 (5 * i + 1)) m ≤ 6 * 9999 := q_sm_bd6 h6 (by decide) (fun i hii => by have := hi.1 i hii; omega)
  have hp := q_mb ht.2.2.2.2.2.2.1 ht.2.2.2.2.2.2.2 b3 b4
  refine ⟨fun G X => ?_, ?_, ?_, ?_⟩
  · rw [t_fullFee hs h0 h6 ht, zCm_J, zMg_vw, ec n]
  · rw [zminJ_eq (by omega) (by omega) (by omega) (by omega)]
    exact q_min_comm _ _
  · rw [q_wn, q_qt_unc hi.1 h6 ht]
  · obtain ⟨ν', r, b⟩ := b_pass (fee := q_fee m tm (q_wn m tm ex n σ0).1) hb hi (by omega) (by omega) ht hfe.1 hfe.2.1
    refine ⟨zMg plF κ ν', fun K X => by rw [r, zCm_V], ?_, fun c hc => zMg_out (by simp only [List.mem_cons, List.not_mem_nil, or_false]; omega)⟩
    refine (b.congr (s' := (q_wn m tm ex (n + 1) σ0).1) (fun k k0 _ => q_qt_hi h6 k k0)).cong ?_ ?_ ?_ ?_ ?_
    · exact zMg_in (pl := plF) (c := 97) (by decide)
    · exact zMg_in (pl := plF) (c := 98) (by decide)
    · exact zMg_in (pl := plF) (c := 99) (by decide)
    · exact zMg_in (pl := plF) (c := 100) (by decide)
    · exact zMg_in (pl := plF) (c := 101) (by decide)
/-- the forecast begins with the books of now -/
theorem k_fore0 (hb : b_bk dl tm s (zVw plNB κ)) (hE : s 91 = 0 ∨ s 91 = 1) : ∃ κ', (∀ K X, zCm plFN κ (F_Books_copyFrom (zVw plFN κ)) (zkV K) X = K κ') ∧ b_bk dl tm s (zVw plF κ') ∧ (∀ c, c < 97 ∨ 103 ≤ c → κ' c = κ c) := by
  obtain ⟨ν1, r1, b1, f1⟩ := b_copyFrom (μ := zVw plFN κ) (hb.cong rfl rfl rfl rfl rfl) hE
  refine ⟨zMg plFN κ ν1, fun K X => by rw [r1, zCm_V], ?_, fun c hc => ?_⟩
  · refine b1.cong ?_ ?_ ?_ ?_ ?_
    · exact zMg_in (pl := plFN) (c := 97) (by decide)
    · exact zMg_in (pl := plFN) (c := 98) (by decide)
    · exact zMg_in (pl := plFN) (c := 99) (by decide)
    · exact zMg_in (pl := plFN) (c := 100) (by decide)
    · exact zMg_in (pl := plFN) (c := 101) (by decide)
  · funext i
    unfold zMg
    cases hx : zIx plFN 0 c with
    | none => rfl
    | some j =>
      have e := zIx_rho hx
      have hj : 6 ≤ j := by
        rcases Nat.lt_or_ge j 6 with h1 | h1
        · exfalso
          have : ∀ j : Nat, j < 6 → 97 ≤ zRho plFN j ∧ zRho plFN j < 103 := by decide
          have := this j h1
          omega
        · exact h1
      show ν1 j i = κ c i
      rw [f1 j hj]
      show κ (zRho plFN j) i = κ c i
      rw [e]
theorem k_fore1 (hb : b_bk dl tm s (zVw plF κ)) (hE : s 91 = 0 ∨ s 91 = 1) : ∃ κ', (∀ K X, zCm plOF κ (F_Books_copyFrom (zVw plOF κ)) (zkV K) X = K κ') ∧ b_bk dl tm s (zVw plO κ') ∧ (∀ c, c < 103 ∨ 109 ≤ c → κ' c = κ c) := by
  obtain ⟨ν1, r1, b1, f1⟩ := b_copyFrom (μ := zVw plOF κ) (hb.cong rfl rfl rfl rfl rfl) hE
  refine ⟨zMg plOF κ ν1, fun K X => by rw [r1, zCm_V], ?_, fun c hc => ?_⟩
  · refine b1.cong ?_ ?_ ?_ ?_ ?_
    · exact zMg_in (pl := plOF) (c := 103) (by decide)
    · exact zMg_in (pl := plOF) (c := 104) (by decide)
    · exact zMg_in (pl := plOF) (c := 105) (by decide)
    · exact zMg_in (pl := plOF) (c := 106) (by decide)
    · exact zMg_in (pl := plOF) (c := 107) (by decide)
  · funext i
    unfold zMg
    cases hx : zIx plOF 0 c with
    | none => rfl
    | some j =>
      have e := zIx_rho hx
      have hj : 6 ≤ j := by
        rcases Nat.lt_or_ge j 6 with h1 | h1
        · exfalso
          have : ∀ j : Nat, j < 6 → 103 ≤ zRho plOF j ∧ zRho plOF j < 109 := by decide
          have := this j h1
          omega
        · exact h1
      show ν1 j i = κ c i
      rw [f1 j hj]
      show κ (zRho plOF j) i = κ c i
      rw [e]
theorem m_waitO {n : Nat} {c3 : Int} (fe : Int → Int) (hm : μ 0 5 = m) (h6 : m ≤ 6) (hdd : μ 0 6 = dl) (hdl : dl ≤ 6) (ht : q_tm (μ 2)) (hi : q_inv m dl B (μ 5)) (hB0 : 0 ≤ B) (hB1 : B + 2 * (200 - μ 5 90) ≤ 760) (hn : μ 5 90 + n ≤ 200) (hn2 : n ≤ 200) (K : ZMem → Option ZRes) : ∃ μ', L_Model_owed_82 n c3 K zN 0 μ = K μ' ∧ m_kp μ μ' ∧ μ' 0 = μ 0 ∧ (μ' 5, μ' 6, μ' 7, (q_wn m (μ 2) (μ 4) n (μ 5, μ 6, μ 7, fe)).2.2.2) = q_wn m (μ 2) (μ 4) n (μ 5, μ 6, μ 7, fe) ∧ μ' 9 = μ 9 ∧ μ' 10 = μ 10 := by
  obtain ⟨⟨v, ν⟩, e, j, rfl, hj, kp, h0, hs, h9, h10⟩ := q_loop (L := fun f (b : Int × ZMem) => L_Model_owed_82 n c3 K f b.1 b.2) (P := fun k b => ∃ j : Nat, b.1 = j ∧ j + k = n ∧ m_kp μ b.2 ∧ b.2 0 = μ 0 ∧ (b.2 5, b.2 6, b.2 7, (q_wn m (μ 2) (μ 4) j (μ 5, μ 6, μ 7, fe)).2.2.2) = q_wn m (μ 2) (μ 4) j (μ 5, μ 6, μ 7, fe) ∧ b.2 9 = μ 9 ∧ b.2 10 = μ 10) (fun f k b h => by
      obtain ⟨v, ν⟩ := b
      obtain ⟨j, rfl, hj, kp, h0, hs, h9, h10⟩ := h
      simp only [] at kp h0 hs h9 h10 ⊢
      obtain ⟨-, t2, -, t4, -⟩ := kp.at
      obtain ⟨hi1, hi2⟩ := q_inv.wn (σ := (μ 5, μ 6, μ 7, fe)) (tm := μ 2) (ex := μ 4) hi h6 hdl ht hB0 hB1 j (by simp only []; omega)
      rw [← hs] at hi1 hi2
      simp only [] at hi1 hi2
      obtain ⟨ν', r, kp', h0', hs', h9', h10'⟩ := m_quarterGoes (μ := ν) (q_wn m (μ 2) (μ 4) j (μ 5, μ 6, μ 7, fe)).2.2.2 (by rw [h0]; exact hm) h6 (by rw [h0]; exact hdd) hdl hi1 (by omega) (by omega) (by rw [t2]; exact ht) (by omega)
      refine ⟨(j + 1, ν'), ?_, j + 1, rfl, by omega, kp.tr kp', h0'.trans h0, ?_, h9'.trans h9, h10'.trans h10⟩
      · simp (disch := omega) only [L_Model_owed_82, Int.add_zero, Int.mul_zero, Int.reduceMul, Int.reduceAdd, Int.mul_one, Int.tdiv_eq_ediv_of_nonneg, Int.tmod_eq_emod_of_nonneg, ↓reduceIte, ↓zLet_eq, ↓zRd_ok, ↓zWr_ok, ↓zC_V, ↓zC_I, ↓zC_J, zUp_at, zUp_ne, q_up_at, q_up_ne, w32_of, w64_of, q_le_T, q_le_F, q_lt_T, q_lt_F, q_eq_T, q_eq_F, true_or, or_true, or_false, false_or, false_and, and_false, r]
      · simp only []
        have eq : q_wn m (μ 2) (μ 4) (j + 1) (μ 5, μ 6, μ 7, fe) = q_qt m (μ 2) (μ 4) (q_wn m (μ 2) (μ 4) j (μ 5, μ 6, μ 7, fe)) := rfl
        rw [t2, t4] at hs'
        rw [eq, ← hs, ← hs']) n zN (0, μ) ⟨0, rfl, by omega, m_kp.rf μ, rfl, by rw [q_wn], rfl, rfl⟩ (Nat.le_of_lt (zN_gt (by omega)))
  simp only [] at e kp h0 hs h9 h10
  obtain rfl : j = n := by omega
  rw [e]
  obtain ⟨f, hf⟩ : ∃ f, zN - j = f + 1 := ⟨zN - j - 1, by have := zN_gt (m := j) (by omega); omega⟩
  rw [hf]
  refine ⟨ν, ?_, kp, h0, hs, h9, h10⟩
  simp (disch := omega) only [L_Model_owed_82, Int.add_zero, Int.mul_zero, Int.reduceMul, Int.reduceAdd, Int.mul_one, Int.tdiv_eq_ediv_of_nonneg, Int.tmod_eq_emod_of_nonneg, ↓reduceIte, ↓zLet_eq, ↓zRd_ok, ↓zWr_ok, ↓zC_V, ↓zC_I, ↓zC_J, zUp_at, zUp_ne, q_up_at, q_up_ne, w32_of, w64_of, q_le_T, q_le_F, q_lt_T, q_lt_F, q_eq_T, q_eq_F, true_or, or_true, or_false, false_or, false_and, and_false]
theorem m_waitP {n : Nat} {c1 : Int} (fe : Int → Int) (hm : μ 0 5 = m) (h6 : m ≤ 6) (hdd : μ 0 6 = dl) (hdl : dl ≤ 6) (ht : q_tm (μ 2)) (hi : q_inv m dl B (μ 5)) (hB0 : 0 ≤ B) (hB1 : B + 2 * (200 - μ 5 90) ≤ 760) (hn : μ 5 90 + n ≤ 200) (hn2 : n ≤ 200) (K : ZMem → Option ZRes) : ∃ μ', L_Model_patience_66 c1 n K zN 0 μ = K μ' ∧ m_kp μ μ' ∧ μ' 0 = μ 0 ∧ (μ' 5, μ' 6, μ' 7, (q_wn m (μ 2) (μ 4) n (μ 5, μ 6, μ 7, fe)).2.2.2) = q_wn m (μ 2) (μ 4) n (μ 5, μ 6, μ 7, fe) ∧ μ' 9 = μ 9 ∧ μ' 10 = μ 10 := by
  obtain ⟨⟨v, ν⟩, e, j, rfl, hj, kp, h0, hs, h9, h10⟩ := q_loop (L := fun f (b : Int × ZMem) => L_Model_patience_66 c1 n K f b.1 b.2) (P := fun k b => ∃ j : Nat, b.1 = j ∧ j + k = n ∧ m_kp μ b.2 ∧ b.2 0 = μ 0 ∧ (b.2 5, b.2 6, b.2 7, (q_wn m (μ 2) (μ 4) j (μ 5, μ 6, μ 7, fe)).2.2.2) = q_wn m (μ 2) (μ 4) j (μ 5, μ 6, μ 7, fe) ∧ b.2 9 = μ 9 ∧ b.2 10 = μ 10) (fun f k b h => by
      obtain ⟨v, ν⟩ := b
      obtain ⟨j, rfl, hj, kp, h0, hs, h9, h10⟩ := h
      simp only [] at kp h0 hs h9 h10 ⊢
      obtain ⟨-, t2, -, t4, -⟩ := kp.at
      obtain ⟨hi1, hi2⟩ := q_inv.wn (σ := (μ 5, μ 6, μ 7, fe)) (tm := μ 2) (ex := μ 4) hi h6 hdl ht hB0 hB1 j (by simp only []; omega)
      rw [← hs] at hi1 hi2
      simp only [] at hi1 hi2
      obtain ⟨ν', r, kp', h0', hs', h9', h10'⟩ := m_quarterGoes (μ := ν) (q_wn m (μ 2) (μ 4) j (μ 5, μ 6, μ 7, fe)).2.2.2 (by rw [h0]; exact hm) h6 (by rw [h0]; exact hdd) hdl hi1 (by omega) (by omega) (by rw [t2]; exact ht) (by omega)
      refine ⟨(j + 1, ν'), ?_, j + 1, rfl, by omega, kp.tr kp', h0'.trans h0, ?_, h9'.trans h9, h10'.trans h10⟩
      · simp (disch := omega) only [L_Model_patience_66, Int.add_zero, Int.mul_zero, Int.reduceMul, Int.reduceAdd, Int.mul_one, Int.tdiv_eq_ediv_of_nonneg, Int.tmod_eq_emod_of_nonneg, ↓reduceIte, ↓zLet_eq, ↓zRd_ok, ↓zWr_ok, ↓zC_V, ↓zC_I, ↓zC_J, zUp_at, zUp_ne, q_up_at, q_up_ne, w32_of, w64_of, q_le_T, q_le_F, q_lt_T, q_lt_F, q_eq_T, q_eq_F, true_or, or_true, or_false, false_or, false_and, and_false, r]
      · simp only []
        have eq : q_wn m (μ 2) (μ 4) (j + 1) (μ 5, μ 6, μ 7, fe) = q_qt m (μ 2) (μ 4) (q_wn m (μ 2) (μ 4) j (μ 5, μ 6, μ 7, fe)) := rfl
        rw [t2, t4] at hs'
        rw [eq, ← hs, ← hs']) n zN (0, μ) ⟨0, rfl, by omega, m_kp.rf μ, rfl, by rw [q_wn], rfl, rfl⟩ (Nat.le_of_lt (zN_gt (by omega)))
  simp only [] at e kp h0 hs h9 h10
  obtain rfl : j = n := by omega
  rw [e]
  obtain ⟨f, hf⟩ : ∃ f, zN - j = f + 1 := ⟨zN - j - 1, by have := zN_gt (m := j) (by omega); omega⟩
  rw [hf]
  refine ⟨ν, ?_, kp, h0, hs, h9, h10⟩
  simp (disch := omega) only [L_Model_patience_66, Int.add_zero, Int.mul_zero, Int.reduceMul, Int.reduceAdd, Int.mul_one, Int.tdiv_eq_ediv_of_nonneg, Int.tmod_eq_emod_of_nonneg, ↓reduceIte, ↓zLet_eq, ↓zRd_ok, ↓zWr_ok, ↓zC_V, ↓zC_I, ↓zC_J, zUp_at, zUp_ne, q_up_at, q_up_ne, w32_of, w64_of, q_le_T, q_le_F, q_lt_T, q_lt_F, q_eq_T, q_eq_F, true_or, or_true, or_false, false_or, false_and, and_false]
theorem m_owes {l : Int} (l0 : 0 ≤ l) (l1 : l < 8) : F_Model_owes l μ = some (.inr (some (zJ (μ 5 (54 + 4 * l) + μ 5 (54 + 4 * l + 1)))), μ) := by
  unfold F_Model_owes
  simp (disch := omega) only [Int.add_zero, Int.mul_zero, Int.reduceMul, Int.reduceAdd, Int.mul_one, Int.tdiv_eq_ediv_of_nonneg, Int.tmod_eq_emod_of_nonneg, ↓reduceIte, ↓zLet_eq, ↓zRd_ok, ↓zWr_ok, ↓zC_V, ↓zC_I, ↓zC_J, zUp_at, zUp_ne, q_up_at, q_up_ne, w32_of, w64_of, q_le_T, q_le_F, q_lt_T, q_lt_F, q_eq_T, q_eq_F, true_or, or_true, or_false, false_or, false_and, and_false, m_ladderAt]
end FP1
