/-! ===== fund, as it is called ===== -/
abbrev plFd : List Nat := [7, 8, 9, 10, 1, 2]
abbrev plFc : List Nat := [3, 4, 5, 6, 7, 8, 9, 10]
def q_ct (n : Int) (g : Int → Int) : Int → Int := fun k => if 0 ≤ k ∧ k < n then g k else 0
theorem q_ct_in {n k : Int} {g : Int → Int} (h0 : 0 ≤ k) (h1 : k < n) : q_ct n g k = g k := if_pos ⟨h0, h1⟩
theorem q_ct_z (n : Int) (g : Int → Int) : q_z n (q_ct n g) := fun k hk => if_neg (by omega)
section UF
variable {m dl a : Nat} {T : Int → Int} {E p p' w f x v td : Int} {φ μ ν κ κ' : ZMem}
theorem q_fi_ct {c : Nat} {n : Nat} {g : Int → Int} (z : q_z n (μ c)) : q_fi μ c g n c = q_ct n g := by
  funext k
  by_cases hk : 0 ≤ k ∧ k < n
  · rw [q_fi_in hk.1 hk.2, q_ct_in hk.1 hk.2]
  · rw [q_fi_out (by omega), z k (by omega)]
    exact (if_neg hk).symm
theorem m_take (D : g_D m dl td φ μ) (hm : 0 < m) (hZ : m_zz μ) (z5 : q_z 92 (μ 5)) (z6 : q_z 1206 (μ 6)) (z7 : q_z 1206 (μ 7)) (h14 : μ 0 14 = 60) :
    ∃ μ', J_Model_fund_104 0 μ = some (.inr (some (zI m)), μ') ∧ m_at m dl 0 μ' ∧ (μ' 2 = q_ct 7 (μ 16) ∧ μ' 3 = q_ct 6 (fun i => if (m : Int) ≤ i then 0 else μ 17 i) ∧ μ' 4 = q_ct 6 (μ 18) ∧ μ' 8 = μ 8) ∧ (∀ c, c = 1 ∨ c = 14 → μ' c = μ c) ∧ (∀ k, k = 19 ∨ k = 21 ∨ k = 24 → μ' 0 k = μ 0 k) ∧ μ' 0 0 = 0 := by
  obtain ⟨-, ⟨y28, y29, y30⟩, htd, ⟨h6, hdl⟩, ht, hp, he⟩ := id D
  obtain ⟨hz2, hz3, hz4, hz8⟩ := hZ
  have l1 : ∀ (μ : ZMem) (K : ZMem → Option ZRes), L_Model_fund_118 K zN 0 μ = K (q_fi μ 2 (μ 16) (7 : Nat)) := fun μ K => by
    refine q_map (L := fun n j ν => L_Model_fund_118 K n j ν) (fun n j hj => ?_) (fun n => ?_) (zN_gt (by omega))
    · have e : q_fi μ 2 (μ 16) j 16 = μ 16 := q_fi_ne (by decide)
      simp (disch := omega) only [L_Model_fund_118, Int.add_zero, Int.mul_zero, Int.reduceMul, Int.reduceAdd, Int.mul_one, Int.tdiv_eq_ediv_of_nonneg, Int.tmod_eq_emod_of_nonneg, ↓reduceIte, ↓zLet_eq, ↓zRd_ok, ↓zWr_ok, ↓zC_V, ↓zC_I, ↓zC_J, zUp_at, zUp_ne, q_up_at, q_up_ne, w32_of, w64_of, q_le_T, q_le_F, q_lt_T, q_lt_F, q_eq_T, q_eq_F, true_or, or_true, or_false, false_or, false_and, and_false, e]
    · simp (disch := omega) only [L_Model_fund_118, Int.add_zero, Int.mul_zero, Int.reduceMul, Int.reduceAdd, Int.mul_one, Int.tdiv_eq_ediv_of_nonneg, Int.tmod_eq_emod_of_nonneg, ↓reduceIte, ↓zLet_eq, ↓zRd_ok, ↓zWr_ok, ↓zC_V, ↓zC_I, ↓zC_J, zUp_at, zUp_ne, q_up_at, q_up_ne, w32_of, w64_of, q_le_T, q_le_F, q_lt_T, q_lt_F, q_eq_T, q_eq_F, true_or, or_true, or_false, false_or, false_and, and_false]
  have l2 : ∀ (μ : ZMem) (K : ZMem → Option ZRes), μ 0 28 = m → L_Model_fund_144 K zN 0 μ = K (q_fi μ 3 (fun i => if (m : Int) ≤ i then 0 else μ 17 i) (6 : Nat)) := fun μ K y28 => by
    refine q_map (L := fun n j ν => L_Model_fund_144 K n j ν) (fun n j hj => ?_) (fun n => ?_) (zN_gt (by omega))
    · have e : q_fi μ 3 (fun i => if (m : Int) ≤ i then 0 else μ 17 i) j 17 = μ 17 := q_fi_ne (by decide)
      have e0 : q_fi μ 3 (fun i => if (m : Int) ≤ i then 0 else μ 17 i) j 0 28 = m := by rw [q_fi_ne (by decide)]; exact y28
      by_cases g : (m : Int) ≤ j
      · simp (disch := omega) only [L_Model_fund_144, J_Model_fund_173, Int.add_zero, Int.mul_zero, Int.reduceMul, Int.reduceAdd, Int.mul_one, Int.tdiv_eq_ediv_of_nonneg, Int.tmod_eq_emod_of_nonneg, ↓reduceIte, ↓zLet_eq, ↓zRd_ok, ↓zWr_ok, ↓zC_V, ↓zC_I, ↓zC_J, zUp_at, zUp_ne, q_up_at, q_up_ne, w32_of, w64_of, q_le_T, q_le_F, q_lt_T, q_lt_F, q_eq_T, q_eq_F, true_or, or_true, or_false, false_or, false_and, and_false, e, e0, if_pos g]
      · simp (disch := omega) only [L_Model_fund_144, J_Model_fund_173, Int.add_zero, Int.mul_zero, Int.reduceMul, Int.reduceAdd, Int.mul_one, Int.tdiv_eq_ediv_of_nonneg, Int.tmod_eq_emod_of_nonneg, ↓reduceIte, ↓zLet_eq, ↓zRd_ok, ↓zWr_ok, ↓zC_V, ↓zC_I, ↓zC_J, zUp_at, zUp_ne, q_up_at, q_up_ne, w32_of, w64_of, q_le_T, q_le_F, q_lt_T, q_lt_F, q_eq_T, q_eq_F, true_or, or_true, or_false, false_or, false_and, and_false, e, e0, if_neg g]
    · simp (disch := omega) only [L_Model_fund_144, Int.add_zero, Int.mul_zero, Int.reduceMul, Int.reduceAdd, Int.mul_one, Int.tdiv_eq_ediv_of_nonneg, Int.tmod_eq_emod_of_nonneg, ↓reduceIte, ↓zLet_eq, ↓zRd_ok, ↓zWr_ok, ↓zC_V, ↓zC_I, ↓zC_J, zUp_at, zUp_ne, q_up_at, q_up_ne, w32_of, w64_of, q_le_T, q_le_F, q_lt_T, q_lt_F, q_eq_T, q_eq_F, true_or, or_true, or_false, false_or, false_and, and_false]
  have l3 : ∀ (μ : ZMem) (K : ZMem → Option ZRes), L_Model_fund_182 K zN 0 μ = K (q_fi μ 4 (μ 18) (6 : Nat)) := fun μ K => by
    refine q_map (L := fun n j ν => L_Model_fund_182 K n j ν) (fun n j hj => ?_) (fun n => ?_) (zN_gt (by omega))
    · have e : q_fi μ 4 (μ 18) j 18 = μ 18 := q_fi_ne (by decide)
      simp (disch := omega) only [L_Model_fund_182, Int.add_zero, Int.mul_zero, Int.reduceMul, Int.reduceAdd, Int.mul_one, Int.tdiv_eq_ediv_of_nonneg, Int.tmod_eq_emod_of_nonneg, ↓reduceIte, ↓zLet_eq, ↓zRd_ok, ↓zWr_ok, ↓zC_V, ↓zC_I, ↓zC_J, zUp_at, zUp_ne, q_up_at, q_up_ne, w32_of, w64_of, q_le_T, q_le_F, q_lt_T, q_lt_F, q_eq_T, q_eq_F, true_or, or_true, or_false, false_or, false_and, and_false, e]
    · simp (disch := omega) only [L_Model_fund_182, Int.add_zero, Int.mul_zero, Int.reduceMul, Int.reduceAdd, Int.mul_one, Int.tdiv_eq_ediv_of_nonneg, Int.tmod_eq_emod_of_nonneg, ↓reduceIte, ↓zLet_eq, ↓zRd_ok, ↓zWr_ok, ↓zC_V, ↓zC_I, ↓zC_J, zUp_at, zUp_ne, q_up_at, q_up_ne, w32_of, w64_of, q_le_T, q_le_F, q_lt_T, q_lt_F, q_eq_T, q_eq_F, true_or, or_true, or_false, false_or, false_and, and_false]
  generalize h1 : q_fi (zUp μ 0 0 0) 2 (zUp μ 0 0 0 16) (7 : Nat) = μ1
  have a1 : ∀ c, c ≠ 0 → c ≠ 2 → μ1 c = μ c := fun c c0 c2 => by rw [← h1, q_fi_ne c2, zUp_ne c0]
  have a0 : μ1 0 = zUp μ 0 0 0 0 := by rw [← h1, q_fi_ne (by decide)]
  have a2 : μ1 2 = q_ct 7 (μ 16) := by rw [← h1, q_fi_ct (c := 2) (n := 7) (by rw [zUp_ne (by decide)]; exact hz2), zUp_ne (by decide)]; rfl
  generalize h2 : q_fi μ1 3 (fun i => if (m : Int) ≤ i then 0 else μ1 17 i) (6 : Nat) = μ2
  have b1 : ∀ c, c ≠ 3 → μ2 c = μ1 c := fun c c3 => by rw [← h2, q_fi_ne c3]
  have b3 : μ2 3 = q_ct 6 (fun i => if (m : Int) ≤ i then 0 else μ 17 i) := by rw [← h2, q_fi_ct (c := 3) (n := 6) (by rw [a1 3 (by decide) (by decide)]; exact hz3), a1 17 (by decide) (by decide)]; rfl
  generalize h3 : q_fi μ2 4 (μ2 18) (6 : Nat) = μ3
  have c1 : ∀ c, c ≠ 4 → μ3 c = μ2 c := fun c c4 => by rw [← h3, q_fi_ne c4]
  have c4 : μ3 4 = q_ct 6 (μ 18) := by rw [← h3, q_fi_ct (c := 4) (n := 6) (by rw [b1 4 (by decide), a1 4 (by decide) (by decide)]; exact hz4), b1 18 (by decide), a1 18 (by decide) (by decide)]; rfl
  have d0 : μ3 0 = zUp μ 0 0 0 0 := by rw [c1 0 (by decide), b1 0 (by decide), a0]
  have d0k : ∀ k, k ≠ 0 → μ3 0 k = μ 0 k := fun k hk => by rw [d0, zUp_at, q_up_ne hk]
  generalize h4 : zUp (zUp (zUp μ3 0 5 m) 0 6 dl) 0 11 0 = μ4
  have e1 : ∀ c, c ≠ 0 → μ4 c = μ3 c := fun c c0 => by rw [← h4, zUp_ne c0, zUp_ne c0, zUp_ne c0]
  have e0 : ∀ k, k ≠ 0 → k ≠ 5 → k ≠ 6 → k ≠ 11 → μ4 0 k = μ 0 k := fun k k0 k5 k6 k11 => by rw [← h4, zUp_at, q_up_ne k11, zUp_at, q_up_ne k6, zUp_at, q_up_ne k5, d0k k k0]
  have e00 : μ4 0 0 = 0 := by rw [← h4, zUp_at, q_up_ne (by decide), zUp_at, q_up_ne (by decide), zUp_at, q_up_ne (by decide), d0, zUp_at, q_up_at]
  have e05 : μ4 0 5 = m := by rw [← h4, zUp_at, q_up_ne (by decide), zUp_at, q_up_ne (by decide), zUp_at, q_up_at]
  have e06 : μ4 0 6 = dl := by rw [← h4, zUp_at, q_up_ne (by decide), zUp_at, q_up_at]
  have e011 : μ4 0 11 = 0 := by rw [← h4, zUp_at, q_up_at]
  have f2 : μ4 2 = q_ct 7 (μ 16) := by rw [e1 2 (by decide), c1 2 (by decide), b1 2 (by decide)]; exact a2
  have f3 : μ4 3 = q_ct 6 (fun i => if (m : Int) ≤ i then 0 else μ 17 i) := by rw [e1 3 (by decide), c1 3 (by decide)]; exact b3
  have f4 : μ4 4 = q_ct 6 (μ 18) := by rw [e1 4 (by decide)]; exact c4
  have fc : ∀ c, c ≠ 0 → c ≠ 2 → c ≠ 3 → c ≠ 4 → μ4 c = μ c := fun c q0 q2 q3 q4 => by rw [e1 c q0, c1 c q4, b1 c q3, a1 c q0 q2]
  have fu : q_fu m dl (μ4 2) (μ4 4) (μ4 3) := by
    rw [f2, f3, f4]
    refine ⟨h6, hdl, ?_, fun i hi => ?_, fun q => by omega, fun d hd => ?_⟩
    · have tt : ∀ k : Nat, k < 7 → 0 ≤ q_ct 7 (μ 16) (k : Int) ∧ q_ct 7 (μ 16) (k : Int) ≤ zTops.getD k 0 := fun k hk => by
        rw [q_ct_in (by omega) (by omega)]
        exact (ht.1 k hk).2
      exact ⟨tt 0 (by decide), tt 1 (by decide), tt 2 (by decide), tt 3 (by decide), tt 4 (by decide), tt 5 (by decide), tt 6 (by decide)⟩
    · rw [q_ct_in (by omega) (by omega), if_neg (by omega)]
      exact (hp i hi).2
    · have hv := (he d (by omega)).2
      rw [q_ct_in (by omega) (by omega)]
      refine ⟨hv.1, hv.2.1, ?_⟩
      refine Classical.byContradiction (fun hne => hv.2.2.2 hm (fun i hi => Classical.byContradiction (fun hb => hne ⟨i, hi, fun q => hb ?_⟩)))
      have q2 := q.2
      rw [q_ct_in (by omega) (by omega)] at q2
      exact q2
  have cf : m_cf m dl μ4 := ⟨e05, e06, fu, by rw [fc 5 (by decide) (by decide) (by decide) (by decide)]; exact z5, by rw [fc 6 (by decide) (by decide) (by decide) (by decide)]; exact z6, by rw [fc 7 (by decide) (by decide) (by decide) (by decide)]; exact z7, by rw [e0 14 (by decide) (by decide) (by decide) (by decide)]; exact h14⟩
  have jo : q_jo m dl (μ4 2) (μ4 4) (μ4 3) (μ4 8) 0 := ⟨by decide, fun k hk => absurd hk (Nat.not_lt_zero _)⟩
  obtain ⟨μ5, r5, kp, k0, k9, k10, hs⟩ := m_anewS cf
  obtain ⟨g1, g2, g3, g4, g8, g5, g6, g11⟩ := kp.at
  obtain ⟨p1, p2, p3, p4⟩ := q_pair hs
  obtain ⟨iv1, iv2⟩ := q_run_inv fu jo 0 (Nat.le_refl _)
  refine ⟨μ5, ?_, ⟨kp.cf cf ?_ ?_ ?_ ?_, g11.trans e011, by rw [g2, g3, g4, g8]; exact jo, ?_, fun k hk => absurd hk (Nat.not_lt_zero _)⟩, ⟨g2.trans f2, g3.trans f3, g4.trans f4, g8.trans (fc 8 (by decide) (by decide) (by decide) (by decide))⟩, fun c hc => ?_, fun k hk => ?_, ?_⟩
  · unfold J_Model_fund_104
    rw [zLet_eq, zUp_at (c := 0), q_up_at, w32_of (by decide) (by decide), if_pos (by decide), l1, h1, l2 μ1 _ (by rw [a0, zUp_at, q_up_ne (by decide)]; exact y28), h2, l3, h3, zLet_eq, zLet_eq, zLet_eq, d0k 28 (by decide), y28, zUp_at (c := 0), q_up_ne (show (29 : Int) ≠ 5 by decide), d0k 29 (by decide), y29, h4, r5, zC_V, g5, e05]
  · rw [k0]; exact cf.2.2.2.2.2.2
  · rw [p2]; exact iv1.2.2.2.2
  · rw [p3]; exact iv2.1
  · rw [p4]; exact iv2.2
  · rw [g2, g3, g4, g8]; exact hs
  · rw [kp.1 c (by omega) (by omega) (by omega) (by omega) (by omega) (by omega) (by omega) (by omega) (by omega) (by omega), fc c (by omega) (by omega) (by omega) (by omega)]
  · rw [kp.2 k (by omega) (by omega) (by omega), e0 k (by omega) (by omega) (by omega) (by omega)]
  · rw [kp.2 0 (by decide) (by decide) (by decide)]; exact e00
theorem act_fund (h : z_all m dl a κ μ) : z_step [(eIAE, 1)] (F_Ledger_fund κ) (F_Model_fund μ) := by
  obtain ⟨hf, h6, hdl, ht, ⟨m5, m6, m11, ha⟩, ⟨k3, k4, k11⟩, hi, hq90, hs⟩ := h.1.all
  obtain ⟨p1, p2, p3, p4⟩ := h.2.2.2.1
  obtain ⟨zz2, zz3, zz4, zz8⟩ := h.2.2.1
  have w0 : w32 0 = 0 := w32_of (by decide) (by decide)
  have w1 : w32 1 = 1 := w32_of (by decide) (by decide)
  have wm : w32 (-1) = -1 := w32_of (by decide) (by decide)
  obtain ⟨μb, rb, b21, b22, b0, bc⟩ := m_begins μ
  -- the reference's draft is empty
  generalize hμd : q_fi (zUp (zUp (zUp μb 0 28 0) 0 29 0) 0 30 0) 18 (fun _ => 0) (6 : Nat) = μd
  have dc : ∀ c, c ≠ 0 → c ≠ 18 → μd c = μ c := fun c c0 c18 => by rw [← hμd, q_fi_ne c18, zUp_ne c0, zUp_ne c0, zUp_ne c0, bc c c0]
  have d0 : ∀ k, k ≠ 28 → k ≠ 29 → k ≠ 30 → μd 0 k = μb 0 k := fun k a b c => by rw [← hμd, q_fi_ne (by decide), zUp_at, q_up_ne c, zUp_at, q_up_ne b, zUp_at, q_up_ne a]
  have d28 : μd 0 28 = 0 ∧ μd 0 29 = 0 ∧ μd 0 30 = 0 := by
    rw [← hμd, q_fi_ne (by decide)]
    exact ⟨by rw [zUp_at, q_up_ne (by decide), zUp_at, q_up_ne (by decide), zUp_at, q_up_at], by rw [zUp_at, q_up_ne (by decide), zUp_at, q_up_at], by rw [zUp_at, q_up_at]⟩
  have d18 : ∀ i : Nat, i < 6 → μd 18 i = 0 := fun i hi => by rw [← hμd, q_fi_in (by omega) (by omega)]
  have l21 : ∀ (μ : ZMem) (K : ZMem → Option ZRes), L_Model_fund_21 K zN 0 μ = K (q_fi μ 18 (fun _ => 0) (6 : Nat)) := fun μ K => by
    refine q_map (L := fun n j ν => L_Model_fund_21 K n j ν) (fun n j hj => ?_) (fun n => ?_) (zN_gt (by omega))
    · simp (disch := omega) only [L_Model_fund_21, Int.add_zero, Int.mul_zero, Int.reduceMul, Int.reduceAdd, Int.mul_one, Int.tdiv_eq_ediv_of_nonneg, Int.tmod_eq_emod_of_nonneg, ↓reduceIte, ↓zLet_eq, ↓zRd_ok, ↓zWr_ok, ↓zC_V, ↓zC_I, ↓zC_J, zUp_at, zUp_ne, q_up_at, q_up_ne, w32_of, w64_of, q_le_T, q_le_F, q_lt_T, q_lt_F, q_eq_T, q_eq_F, true_or, or_true, or_false, false_or, false_and, and_false]
    · simp (disch := omega) only [L_Model_fund_21, Int.add_zero, Int.mul_zero, Int.reduceMul, Int.reduceAdd, Int.mul_one, Int.tdiv_eq_ediv_of_nonneg, Int.tmod_eq_emod_of_nonneg, ↓reduceIte, ↓zLet_eq, ↓zRd_ok, ↓zWr_ok, ↓zC_V, ↓zC_I, ↓zC_J, zUp_at, zUp_ne, q_up_at, q_up_ne, w32_of, w64_of, q_le_T, q_le_F, q_lt_T, q_lt_F, q_eq_T, q_eq_F, true_or, or_true, or_false, false_or, false_and, and_false]
  have ed : q_fi (zUp (zUp (zUp (y_t μb 0 (-1)) 0 28 0) 0 29 0) 0 30 0) 18 (fun _ => 0) (6 : Nat) = y_t μd 0 (-1) := by
    rw [y_t_u0 (by decide) (by decide), y_t_u0 (by decide) (by decide), y_t_u0 (by decide) (by decide), ← hμd]
    funext c i
    by_cases q : c = 18 ∧ 0 ≤ i ∧ i < ((6 : Nat) : Int)
    · obtain ⟨q0, q1, q2⟩ := q
      subst q0
      rw [q_fi_in q1 q2, y_t_c (by decide), q_fi_in q1 q2]
    · by_cases c18 : c = 18
      · subst c18
        rw [q_fi_out (by omega), y_t_c (by decide), y_t_c (by decide), q_fi_out (by omega)]
      · rw [q_fi_ne c18]
        unfold y_t zUp
        rw [q_fi_ne c18]
  have hT : q_T (μ 15) (μ 0 21) := ⟨p2, fun i i0 i1 => (p3 i i0 i1).2⟩
  have yT : y_T (μ 15) (μ 0 21) μd := ⟨by rw [d0 22 (by decide) (by decide) (by decide)]; exact b22, fun i i0 i1 => by rw [dc 15 (by decide) (by decide)]⟩
  have kT : k_T 4 (μ 15) (μ 0 21) (zVw plFd (X_t 1 κ 0 (-1))) := ⟨by show X_t 1 κ 0 (-1) 1 1 = _; rw [X_t_1]; exact p1, fun i i0 i1 => by show X_t 1 κ 0 (-1) 2 i = _; rw [X_t_c (by decide)]; exact (p3 i i0 i1).1⟩
  have sx : X_t 4 (zVw plFd (X_t 1 κ 0 (-1))) 0 (-1) = zVw plFd (X_t 1 κ 0 (-1)) := X_t_self (by show X_t 1 κ 0 (-1) 1 2 = 0; exact X_t_2) (by show X_t 1 κ 0 (-1) 1 3 = -1; exact X_t_3)
  have main := g_read hT kT yT (fun i hi => by rw [dc 1 (by decide) (by decide)]; exact h.2.1 i hi) p2.1 d28 d18
  rw [sx] at main
  have em : F_Model_fund μ = (zC (F_Model_fundLine_1 (y_t μd 0 (-1))) (zkV (fun μ9 => zC (F_Model_comesMore 1 14 μ9) (zkI (fun x12 μ11 => L_Model_fund_44 kFd zN 1 x12 μ11)) zX0)) zX0) := by
    unfold F_Model_fund
    rw [rb, zC_V, zLet_eq, zLet_eq, zLet_eq, l21, ed]
    rfl
  have ec : F_Ledger_fund κ = zCm plFd (X_t 1 κ 0 (-1)) (F_Fund_readFrom (zVw plFd (X_t 1 κ 0 (-1)))) (zkI (fun x4 μ3 => zLet (zUp μ3 1 1 0) (fun μ5 => if w32 x4 = 0 then (some (.inl "java/lang/IllegalArgumentException", μ5)) else (zCm [3, 4, 5, 6, 7, 8, 9, 10] μ5 (F_Fund_copyFrom  (zVw [3, 4, 5, 6, 7, 8, 9, 10] μ5)) (zkV (fun μ6 => zLet (zUp μ6 11 1 0) (fun μ8 => zC (F_Ledger_goThroughAnew  μ8) (zkV (fun μ9 => some (.inr (some (zI (μ9 3 3))), μ9))) zX0))) zX0)))) zX0 := by
    unfold F_Ledger_fund
    rw [k_rewind]
  have mg : ∀ φ' c, (c = 0 ∨ (3 ≤ c ∧ c < 7) ∨ 11 ≤ c) → zMg plFd (X_t 1 κ 0 (-1)) φ' c = κ c := fun φ' c hc => by
    rw [zMg_out (by simp only [List.mem_cons, List.not_mem_nil, or_false]; omega), X_t_c (by omega)]
  have mg1 : ∀ φ', zMg plFd (X_t 1 κ 0 (-1)) φ' 1 = φ' 4 := fun φ' => zMg_in (pl := plFd) (c := 1) (by decide)
  rw [ec, em]
  rcases main with ⟨φ', μ', m', dl', td, e1, e2, D, hm, fr, v3, u24⟩ | ⟨φ', μ', f, e1, e2, fr, v3, u24, f0, f1⟩
  · have r0 : ∀ k, k = 14 ∨ k = 19 ∨ k = 21 → μ' 0 k = μb 0 k := fun k hk => by rw [fr.2.2 k (by omega) (by omega) (by omega) (by omega) (by omega), d0 k (by omega) (by omega) (by omega)]
    have rc : ∀ c, (1 ≤ c ∧ c ≤ 15) → μ' c = μ c := fun c hc => by rw [fr.2.1 c (by omega) (by omega) (by omega) (by omega) (by omega), dc c (by omega) (by omega)]
    obtain ⟨-, -, -, z5, z6, z7, z14⟩ := h.1.1.1
    obtain ⟨μ2, q1, M2, ⟨t2, t3, t4, t8⟩, s1, s2, s0⟩ := m_take D hm (by unfold m_zz; rw [rc 2 (by decide), rc 3 (by decide), rc 4 (by decide), rc 8 (by decide)]; exact ⟨zz2, zz3, zz4, zz8⟩) (by rw [rc 5 (by decide)]; exact z5) (by rw [rc 6 (by decide)]; exact z6) (by rw [rc 7 (by decide)]; exact z7) (by rw [r0 14 (by decide), b0 14 (by decide) (by decide) (by decide) (by decide)]; exact z14)
    have fu2 := M2.1.2.2.1
    have jo2 := M2.2.2.1
    rw [e1, e2, zCm_I, zLet_eq, w1, if_neg (show ¬ (1 : Int) = 0 by decide)]
    unfold J_Model_fund_90
    rw [u24, if_pos rfl, q1]
    generalize hκ1 : zMg plFd (X_t 1 κ 0 (-1)) φ' = κ1 at *
    have m7 : κ1 7 = φ' 0 := by rw [← hκ1]; exact zMg_in (pl := plFd) (c := 7) (by decide)
    have m8 : κ1 8 = φ' 1 := by rw [← hκ1]; exact zMg_in (pl := plFd) (c := 8) (by decide)
    have m9 : κ1 9 = φ' 2 := by rw [← hκ1]; exact zMg_in (pl := plFd) (c := 9) (by decide)
    have m10 : κ1 10 = φ' 3 := by rw [← hκ1]; exact zMg_in (pl := plFd) (c := 10) (by decide)
    have gq : ∀ c, (c = 0 ∨ (3 ≤ c ∧ c < 7) ∨ 11 ≤ c) → κ1 c = κ c := fun c hc => by rw [← hκ1]; exact mg φ' c hc
    have gq1 : κ1 1 = φ' 4 := by rw [← hκ1]; exact mg1 φ'
    generalize hκ2 : zUp κ1 1 1 0 = κ2
    have n1 : ∀ c, c ≠ 1 → κ2 c = κ1 c := fun c hc => by rw [← hκ2, zUp_ne hc]
    have n11 : κ2 1 1 = 0 := by rw [← hκ2, zUp_at, q_up_at]
    have n13 : κ2 1 3 = -1 := by rw [← hκ2, zUp_at, q_up_ne (by decide), gq1]; exact v3
    obtain ⟨⟨c3, c4, c5⟩, ⟨y28, y29, y30⟩, htd, ⟨h6', hdl'⟩, ht', hp', he'⟩ := id D
    obtain ⟨ν1, x1, y1, y2, y3, y4, f4'⟩ := f_copyFund (ν := zVw plFc κ2) (by show κ2 7 5 = 0 ∨ κ2 7 5 = 1; rw [n1 7 (by decide), m7, c5]; exact htd)
    have o1 : ∀ c, c < 3 ∨ 7 ≤ c → zMg plFc κ2 ν1 c = κ2 c := fun c hc => zMg_4 f4' (by
      show c ∉ [3, 4, 5, 6]
      simp only [List.mem_cons, List.not_mem_nil, or_false]
      omega)
    have hC3 : c_fd m' dl' (μ2 2) (μ2 4) (μ2 3) (zMg plFc κ2 ν1 3) (zMg plFc κ2 ν1 4) (zMg plFc κ2 ν1 5) (zMg plFc κ2 ν1 6) := by
      rw [zMg_in (pl := plFc) (c := 3) (j := 0) (by decide), zMg_in (pl := plFc) (c := 4) (j := 1) (by decide), zMg_in (pl := plFc) (c := 5) (j := 2) (by decide), zMg_in (pl := plFc) (c := 6) (j := 3) (by decide)]
      refine ⟨?_, ?_, ?_, fun k k0 k1 => ?_, fun i i0 i1 => ?_, fun d d0 d1 => ?_⟩
      · rw [y1.1]; show κ2 7 3 = _; rw [n1 7 (by decide), m7]; exact c3
      · rw [y1.2.1]; show κ2 7 4 = _; rw [n1 7 (by decide), m7]; exact c4
      · rw [y1.2.2]; show κ2 7 5 = 0 ∨ κ2 7 5 = 1; rw [n1 7 (by decide), m7, c5]; exact htd
      · rw [y2 k k0 k1]; show κ2 8 k = _; rw [n1 8 (by decide), m8, t2, q_ct_in k0 k1]
        have := (ht'.1 k.toNat (by omega)).1
        rw [Int.toNat_of_nonneg k0] at this
        exact this
      · rw [y3 i i0 (by omega)]; show κ2 9 i = _; rw [n1 9 (by decide), m9, t3, q_ct_in i0 (by omega), if_neg (by omega)]
        have := (hp' i.toNat (by omega)).1
        rw [Int.toNat_of_nonneg i0] at this
        exact this
      · rw [y4 d d0 d1]; show κ2 10 d = _; rw [n1 10 (by decide), m10, t4, q_ct_in d0 d1]
        have := (he' d.toNat (by omega)).1
        rw [Int.toNat_of_nonneg d0] at this
        exact this
    generalize hκ3 : zMg plFc κ2 ν1 = κ3 at *
    generalize hκ4 : zUp κ3 11 1 0 = κ4
    have o4 : ∀ c, c ≠ 11 → κ4 c = κ3 c := fun c hc => by rw [← hκ4, zUp_ne hc]
    have o411 : κ4 11 1 = ((0 : Nat) : Int) := by rw [← hκ4, zUp_at, q_up_at]; rfl
    have hC4 : c_fd m' dl' (μ2 2) (μ2 4) (μ2 3) (κ4 3) (κ4 4) (κ4 5) (κ4 6) := by
      rw [o4 3 (by decide), o4 4 (by decide), o4 5 (by decide), o4 6 (by decide)]
      exact hC3
    have q4 : ∀ c, c = 0 ∨ 13 ≤ c → κ4 c = κ c := fun c hc => by rw [o4 c (by omega), o1 c (by omega), n1 c (by omega), gq c (by omega)]
    obtain ⟨κ5, r5, s5, f5⟩ := k_anew (κ := κ4) (a := 0) (J := μ2 8) hC4 o411 (fun k hk => absurd hk (Nat.not_lt_zero _)) (by rw [q4 13 (by decide)]; exact h.1.2.2.2.1.2.1) fu2 jo2
    rw [x1, zCm_V, hκ3, zLet_eq, hκ4, r5, zC_V, f5 3 (by decide), hC4.1]
    refine z_step.ok (v := zI m') (κ' := κ5) (μ' := μ2) (m := m') (dl := dl') (a := 0) rfl rfl (h.rd ⟨M2, ?_, ?_, s5, ?_⟩ (fun c hc => by rw [f5 c (by omega), q4 c (by omega)]) (fun c hc => by rw [s1 c hc, rc c (by omega)]) ?_ ?_ ?_ ?_ ?_) s0
    · show c_fd m' dl' (μ2 2) (μ2 4) (μ2 3) (κ5 3) (κ5 4) (κ5 5) (κ5 6)
      rw [f5 3 (by decide), f5 4 (by decide), f5 5 (by decide), f5 6 (by decide)]
      exact hC4
    · exact ⟨by rw [f5 11 (by decide)]; exact o411, fun k hk => absurd hk (Nat.not_lt_zero _), fun k hk => absurd hk (Nat.not_lt_zero _)⟩
    · rw [f5 32 (by decide), q4 32 (by decide)]; exact h.1.2.2.2.2
    · rw [s2 19 (by decide), r0 19 (by decide), b0 19 (by decide) (by decide) (by decide) (by decide)]
    · unfold m_zz
      rw [t2, t3, t4, t8, rc 8 (by decide)]
      exact ⟨q_ct_z 7 _, q_ct_z 6 _, q_ct_z 6 _, zz8⟩
    · rw [f5 1 (by decide), o4 1 (by decide), o1 1 (by decide)]; exact n11
    · rw [s2 21 (by decide), r0 21 (by decide)]; exact b21
    · rw [f5 1 (by decide), o4 1 (by decide), o1 1 (by decide), n13, s2 24 (by decide), u24]
  · have r0 : ∀ k, k = 5 ∨ k = 6 ∨ k = 11 ∨ k = 14 ∨ k = 19 ∨ k = 21 → μ' 0 k = μb 0 k := fun k hk => by rw [fr.2.2 k (by omega) (by omega) (by omega) (by omega) (by omega), d0 k (by omega) (by omega) (by omega)]
    have rc : ∀ c, (1 ≤ c ∧ c ≤ 15) → μ' c = μ c := fun c hc => by rw [fr.2.1 c (by omega) (by omega) (by omega) (by omega) (by omega), dc c (by omega) (by omega)]
    rw [e1, e2, zCm_I, zLet_eq, w0, if_pos rfl]
    unfold J_Model_fund_90 J_Model_fund_104
    rw [u24, w32_of (a := f) (by omega) (by omega), wm, if_neg (show ¬ f = -1 by omega), zLet_eq, zUp_at (c := 0), q_up_at, w1, if_neg (show ¬ (1 : Int) ≤ 0 by decide)]
    refine ⟨_, _, zI 0, zUp μ' 0 0 1, m, dl, a, rfl, rfl, h.rd ⟨(h.1.1.cong (μ' := μ') (fun c c0 c1 => rc c (by omega)) (fun k hk => by rw [r0 k (by omega), b0 k (by omega) (by omega) (by omega) (by omega)])).up0 1, ?_⟩ (fun c hc => by rw [zUp_ne (by omega)]; exact mg φ' c (by omega)) (fun c hc => by rw [zUp_ne (by omega), rc c (by omega)]) ?_ ?_ (by rw [zUp_at, q_up_at]) ?_ ?_, Or.inr ⟨eIAE, 1, rfl, by rw [zUp_at, q_up_at], by decide, zXh_hit (by decide +kernel)⟩⟩
    · rw [zUp_ne (by decide), zUp_ne (by decide), zUp_ne (by decide), zUp_ne (by decide), rc 2 (by decide), rc 3 (by decide), rc 4 (by decide), rc 8 (by decide)]
      exact h.1.2.cg2 (fun c hc => by rw [zUp_ne (by omega)]; exact mg φ' c (by omega))
    · rw [zUp_at, q_up_ne (by decide), r0 19 (by decide), b0 19 (by decide) (by decide) (by decide) (by decide)]
    · unfold m_zz
      rw [zUp_ne (by decide), zUp_ne (by decide), zUp_ne (by decide), zUp_ne (by decide), rc 2 (by decide), rc 3 (by decide), rc 4 (by decide), rc 8 (by decide)]
      exact ⟨zz2, zz3, zz4, zz8⟩
    · rw [zUp_at, q_up_ne (by decide), r0 21 (by decide)]; exact b21
    · rw [zUp_at, q_up_ne (by decide), mg1, v3, zUp_at, q_up_ne (by decide), u24]
end UF
