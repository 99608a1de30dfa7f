/-! ===== faces: owed, patience ===== -/
section FQ
variable {m dl a : Nat} {B d sum : Int} {tm ex s s' : Int → Int} {σ : QS} {κ μ ν : ZMem} {x y z : Int}
theorem k_owed_loop {σ0 : QS} {c1 : Int} {n : Nat} (hs : s_T m dl tm ex σ0 (zVw plN κ)) (h0 : q_inv m dl B σ0.1) (hB0 : 0 ≤ B) (hB1 : B + 2 * (200 - σ0.1 90) ≤ 760) (h6 : m ≤ 6) (hdl : dl ≤ 6) (ht : q_tm tm) (hn : σ0.1 90 + n ≤ 200) (hn2 : n ≤ 200) (hb : b_bk dl tm σ0.1 (zVw plF κ)) (K : ZMem → Option ZRes) : ∃ κ', L_Ledger_owed_90 c1 n K zN (q_sm (fun i => σ0.1 (5 * i + 1)) m) 0 κ = K κ' ∧ b_bk dl tm (q_wn m tm ex n σ0).1 (zVw plF κ') ∧ (∀ c, c < 97 ∨ 103 ≤ c → κ' c = κ c) := by
  obtain ⟨⟨v3, v5, κ1⟩, e, j, h5, hj, h3, hb1, f1⟩ := q_loop (L := fun f (b : Int × Int × ZMem) => L_Ledger_owed_90 c1 n K f b.1 b.2.1 b.2.2) (P := fun k b => ∃ j : Nat, b.2.1 = j ∧ j + k = n ∧ b.1 = q_sm (fun i => (q_wn m tm ex j σ0).1 (5 * i + 1)) m ∧ b_bk dl tm (q_wn m tm ex j σ0).1 (zVw plF b.2.2) ∧ (∀ c, c < 97 ∨ 103 ≤ c → b.2.2 c = κ c)) (fun f k b h => by
      obtain ⟨v3, v5, κ1⟩ := b
      obtain ⟨j, h5, hj, h3, hb1, f1⟩ := h
      simp only [] at h5 h3 hb1 f1 ⊢
      subst h5
      subst h3
      obtain ⟨e1, e2, e3, κ2, e4, hb2, f2⟩ := k_fore (n := j) (hs.vw (κ' := κ1) (fun c hc => f1 c (by omega))) h0 hB0 hB1 h6 hdl ht (by omega) hb1
      refine ⟨(q_sm (fun i => (q_wn m tm ex (j + 1) σ0).1 (5 * i + 1)) m, (j : Int) + 1, κ2), ?_, j + 1, rfl, by omega, rfl, hb2, fun c hc => (f2 c hc).trans (f1 c hc)⟩
      rw [L_Ledger_owed_90, w32_of (by omega) (by omega), w32_of (by omega) (by omega), if_neg (by omega), e1, zLet_eq, zLet_eq, e2, e3, e4, zLet_eq]) n zN (q_sm (fun i => σ0.1 (5 * i + 1)) m, 0, κ) ⟨0, rfl, by omega, by rw [q_wn], by rw [q_wn]; exact hb, fun _ _ => rfl⟩ (Nat.le_of_lt (zN_gt (by omega)))
  simp only [] at e h5 h3 hb1 f1
  obtain rfl : j = n := by omega
  refine ⟨κ1, ?_, hb1, f1⟩
  rw [e, h5]
  obtain ⟨f, hf⟩ : ∃ f, zN - j = f + 1 := ⟨zN - j - 1, by have := zN_gt (m := j) (by omega); omega⟩
  rw [hf, L_Ledger_owed_90, if_pos (Int.le_refl _)]
theorem face_owed (h : z_rest m dl a κ μ) (hx : q_i32 x) (hy : q_i32 y) : z_face [(eIOB, 1), (eIAE, 2)] m dl a κ μ (F_Ledger_owed x y κ) (F_Model_owed x y μ) := by
  obtain ⟨hf, h6, hdl, ht, ⟨m5, m6, m11, ha⟩, ⟨k3, k4, k11⟩, hi, hq, hs⟩ := h.all
  obtain ⟨M, C⟩ := h
  have hb : b_bk dl (μ 2) (μ 5) (zVw plNB κ) := hs.1.1
  have hr : r_rg m (μ 4) (μ 5) (zVw plNR κ) := hs.1.2
  have e6 : κ 14 6 = μ 5 90 := hb.2.2.2.2.2.2.1
  have hxx := hx
  obtain ⟨x1, x2⟩ := hxx
  obtain ⟨y1, y2⟩ := hy
  by_cases gx : -1 ≤ x ∧ x < dl
  · have eY := kY_don k4 hdl gx.1 gx.2
    by_cases gy : 0 ≤ y ∧ y ≤ 60 ∧ μ 5 90 + y ≤ 200
    · obtain ⟨n, rfl⟩ := Int.eq_ofNat_of_zero_le gy.1
      have hB1 : 6 * (a : Int) + 2 * μ 5 90 + 2 * (200 - μ 5 90) ≤ 760 := by omega
      -- the class
      obtain ⟨κ1, c1, b1, f1⟩ := k_fore0 hb (z_ev91 hi)
      have hs1 := hs.vw (κ' := κ1) (fun c hc => f1 c (by omega))
      have hr1 : r_rg m (μ 4) (μ 5) (zVw plNR κ1) := hs1.1.2
      have ea := r_allOf2 hr1 hi.1 h6
      obtain ⟨κ2, c2, b2, f2⟩ := k_owed_loop (σ0 := (μ 5, μ 6, μ 7, (q_run m (μ 2) (μ 4) (μ 3) (μ 8) a).2.2.2)) (c1 := x) (n := n) hs1 hi (by omega) hB1 h6 hdl ht (by simp only []; omega) (by omega) b1 (fun μ14 => if w32 x = w32 (-1) then (J_Ledger_owed_144 μ14) else (zCm plF μ14 (F_Books_isDealwise (zVw plF μ14)) (zkI (fun x18 μ17 => if w32 x18 = 0 then (J_Ledger_owed_144 μ17) else (zCm plF μ17 (F_Books_standing x (zVw plF μ17)) (zkJ (fun x20 μ19 => zCm plF μ19 (F_Books_standing 7 (zVw plF μ19)) (zkJ (fun x22 μ21 => some (.inr (some (zJ (x20 + x22))), μ21))) zX0)) zX0))) zX0))
      have hcf : c_fr κ κ2 := c_fr.of (fun c hc => (f2 c (by omega)).trans (f1 c (by omega)))
      -- the reference
      have lo := m_ladderOf (μ := zUp μ 0 0 0) (d := x) (by rw [zUp_ne (by decide)]; exact ht) gx.1 (by omega)
      rw [zUp_ne (by decide)] at lo
      have hl0 : 0 ≤ q_lo (μ 2) x ∧ q_lo (μ 2) x < 8 := by rcases q_lo_in (tm := μ 2) gx.1 (show x < 6 by omega) with h | h <;> omega
      obtain ⟨μ4, r4, f4, g11, g12⟩ := m_putsAside (zUp μ 0 0 0)
      have n2 : μ4 2 = μ 2 := by rw [f4 2 (by decide) (by decide) (by decide), zUp_ne (by decide)]
      have n4 : μ4 4 = μ 4 := by rw [f4 4 (by decide) (by decide) (by decide), zUp_ne (by decide)]
      have n5 : μ4 5 = μ 5 := by rw [f4 5 (by decide) (by decide) (by decide), zUp_ne (by decide)]
      have n6 : μ4 6 = μ 6 := by rw [f4 6 (by decide) (by decide) (by decide), zUp_ne (by decide)]
      have n7 : μ4 7 = μ 7 := by rw [f4 7 (by decide) (by decide) (by decide), zUp_ne (by decide)]
      have n0 : ∀ k, k ≠ 0 → μ4 0 k = μ 0 k := fun k hk => by rw [f4 0 (by decide) (by decide) (by decide), zUp_at, q_up_ne hk]
      have n00 : μ4 0 0 = 0 := by rw [f4 0 (by decide) (by decide) (by decide), zUp_at, q_up_at]
      have zr : q_z 92 (μ 5) ∧ q_z 1206 (μ 6) ∧ q_z 1206 (μ 7) ∧ μ 0 14 = 60 := M.1.2.2.2
      obtain ⟨μ5, r5, kp, e05, hσ, h9, h10⟩ := m_waitO (μ := μ4) (m := m) (dl := dl) (n := n) (c3 := q_lo (μ 2) x) (B := 6 * a + 2 * μ 5 90) (q_run m (μ 2) (μ 4) (μ 3) (μ 8) a).2.2.2 ((n0 5 (by decide)).trans m5) h6 ((n0 6 (by decide)).trans m6) hdl (by rw [n2]; exact ht) (by rw [n5]; exact hi) (by omega) (by rw [n5]; exact hB1) (by rw [n5]; omega) (by omega) (fun μ11 => zC (F_Model_owes (q_lo (μ 2) x) μ11) (zkJ (fun x13 μ12 => if w32 (q_lo (μ 2) x) ≤ 0 then (J_Model_owed_116 0 x13 μ12) else (zC (F_Model_owes 1 μ12) (zkJ (fun x18 μ17 => J_Model_owed_116 x18 x13 μ17)) zX0))) zX0)
      rw [n2, n4, n5, n6, n7] at hσ
      obtain ⟨hσ0, p5, p6, p7⟩ := q_pair hσ
      obtain ⟨hi5, h90⟩ := q_inv.wn (σ := (μ 5, μ 6, μ 7, (q_run m (μ 2) (μ 4) (μ 3) (μ 8) a).2.2.2)) (tm := μ 2) (ex := μ 4) hi h6 hdl ht (by omega) hB1 n (by simp only []; omega)
      have zz := q_zz.wn (tm := μ 2) (ex := μ 4) (σ := (μ 5, μ 6, μ 7, (q_run m (μ 2) (μ 4) (μ 3) (μ 8) a).2.2.2)) ⟨zr.2.1, zr.2.2.1⟩ h6 n
      rw [← p5] at hi5 b2
      have q11 : ∀ k, 0 ≤ k → k < 92 → μ5 11 k = μ 5 k := fun k k0 k1 => by rw [kp.1 11 (by decide) (by decide) (by decide) (by decide) (by decide) (by decide) (by decide) (by decide) (by decide) (by decide), g11 k k0 k1, zUp_ne (by decide)]
      have q12 : ∀ k, 0 ≤ k → k < 1206 → μ5 12 k = μ 6 k ∧ μ5 13 k = μ 7 k := fun k k0 k1 => by
        rw [kp.1 12 (by decide) (by decide) (by decide) (by decide) (by decide) (by decide) (by decide) (by decide) (by decide) (by decide), kp.1 13 (by decide) (by decide) (by decide) (by decide) (by decide) (by decide) (by decide) (by decide) (by decide) (by decide), (g12 k k0 k1).1, (g12 k k0 k1).2, zUp_ne (by decide), zUp_ne (by decide)]
        exact ⟨rfl, rfl⟩
      obtain ⟨μ6, r6, f6, h5, h6', h7⟩ := m_comesBack (μ := μ5) (s := μ 5) (p := μ 6) (g := μ 7) q11 q12 (fun k hk => hi5.2.2.2.2 k hk) (by rw [p6]; exact zz.1) (by rw [p7]; exact zz.2) zr.1 zr.2.1 zr.2.2.1
      have ec : ∀ c, 1 ≤ c → (c ≤ 10 ∨ c = 14 ∨ c = 15) → μ6 c = μ c := fun c c0 c1 => by
        by_cases h5c : c = 5
        · rw [h5c]; exact h5
        · by_cases h6c : c = 6
          · rw [h6c]; exact h6'
          · by_cases h7c : c = 7
            · rw [h7c]; exact h7
            · by_cases h9c : c = 9
              · rw [h9c, f6 9 (by decide) (by decide) (by decide), h9, f4 9 (by decide) (by decide) (by decide), zUp_ne (by decide)]
              · by_cases h10c : c = 10
                · rw [h10c, f6 10 (by decide) (by decide) (by decide), h10, f4 10 (by decide) (by decide) (by decide), zUp_ne (by decide)]
                · rw [f6 c h5c h6c h7c, kp.1 c (by omega) h5c h6c h7c h9c h10c (by omega) (by omega) (by omega) (by omega), f4 c (by omega) (by omega) (by omega), zUp_ne (by omega)]
      have e60 : μ6 0 = μ4 0 := (f6 0 (by decide) (by decide) (by decide)).trans e05
      have hat : m_at m dl a μ6 := M.cong (fun c c0 c1 => ec c (by omega) (Or.inl c1)) (fun k hk => by rw [e60, n0 k (by omega)])
      have hfr : m_fr μ μ6 := ⟨fun c hc => ec c (by omega) (by omega), fun k hk => by rw [e60, n0 k (by omega)]⟩
      have h00 : μ6 0 0 = 0 := by rw [e60]; exact n00
      have ow := m_owes (μ := μ5) (l := q_lo (μ 2) x) hl0.1 hl0.2
      have ow1 := m_owes (μ := μ5) (l := 1) (by decide) (by decide)
      have eC : F_Ledger_owed x n κ = (if w32 x = w32 (-1) then (J_Ledger_owed_144 κ2) else (zCm plF κ2 (F_Books_isDealwise (zVw plF κ2)) (zkI (fun x18 μ17 => if w32 x18 = 0 then (J_Ledger_owed_144 μ17) else (zCm plF μ17 (F_Books_standing x (zVw plF μ17)) (zkJ (fun x20 μ19 => zCm plF μ19 (F_Books_standing 7 (zVw plF μ19)) (zkJ (fun x22 μ21 => some (.inr (some (zJ (x20 + x22))), μ21))) zX0)) zX0))) zX0)) := by
        unfold F_Ledger_owed
        rw [eY, zC_I, w32_of (by decide) (by decide), if_neg (by decide), w32_of y1 y2, if_neg (by omega), w32_of (by decide) (by decide), if_neg (by omega), e6, w32_of (by omega) (by omega), w32_of (by decide) (by decide), if_pos gy.2.2, c1, ea, zCm_J, zMg_vw]
        exact c2
      have eM : F_Model_owed x n μ = zC (F_Model_owes (q_lo (μ 2) x) μ5) (zkJ (fun x13 μ12 => if w32 (q_lo (μ 2) x) ≤ 0 then (J_Model_owed_116 0 x13 μ12) else (zC (F_Model_owes 1 μ12) (zkJ (fun x18 μ17 => J_Model_owed_116 x18 x13 μ17)) zX0))) zX0 := by
        unfold F_Model_owed J_Model_owed_57
        rw [w32_of x1 x2, m6, w32_of (by omega) (by omega), z_isInY gx.1 (by omega) (by decide) (by omega), zC_I, w32_of (by decide) (by decide), if_neg (by decide), w32_of y1 y2, z_isInY gy.1 (by omega) (by decide) (by decide), zC_I, w32_of (by decide) (by decide), if_neg (by decide), zRd_ok (by decide) (by decide) (by decide), w64_of (by omega) (by omega), w64_of (by decide) (by decide), if_pos (by omega), zLet_eq, zUp_at, q_up_at, w32_of (by decide) (by decide), if_pos (by decide), lo, zC_I, r4, zC_V]
        exact r5
      rw [eC, eM, ow, zC_J]
      have st6 := b_standing (a := 6) (l := 0) b2 (Or.inl (Or.inl ⟨rfl, rfl⟩))
      by_cases hd : x = -1
      · have e2 : q_lo (μ 2) x = 0 := if_pos hd
        rw [e2]
        refine z_face.ok (v := zJ (μ5 5 (54 + 4 * 0) + μ5 5 (54 + 4 * 0 + 1))) (κ' := κ2) (μ' := μ6) ?_ ?_ hcf hfr hat h00
        · unfold J_Ledger_owed_144
          rw [w32_of x1 x2, w32_of (by decide) (by decide), if_pos hd, st6, zCm_J, zMg_vw]
        · unfold J_Model_owed_116
          simp (disch := omega) only [Int.add_zero, Int.mul_zero, Int.reduceMul, Int.reduceAdd, Int.mul_one, Int.tdiv_eq_ediv_of_nonneg, Int.tmod_eq_emod_of_nonneg, ↓reduceIte, ↓zLet_eq, ↓zRd_ok, ↓zWr_ok, ↓zC_V, ↓zC_I, ↓zC_J, zUp_at, zUp_ne, q_up_at, q_up_ne, w32_of, w64_of, q_le_T, q_le_F, q_lt_T, q_lt_F, q_eq_T, q_eq_F, true_or, or_true, or_false, false_or, false_and, and_false, r6]
      · have ew := b_isDealwise b2 ht
        by_cases h3 : μ 2 3 = 1
        · have e2 : q_lo (μ 2) x = 2 + x := by unfold q_lo; rw [if_neg hd, if_pos h3]
          rw [e2]
          rw [if_pos h3] at ew
          have st := b_standing (a := x) (l := 2 + x) b2 (Or.inl (Or.inr ⟨by omega, by omega, rfl⟩))
          have st7 := b_standing (a := 7) (l := 1) b2 (Or.inr ⟨rfl, rfl⟩)
          refine z_face.ok (v := zJ (μ5 5 (54 + 4 * (2 + x)) + μ5 5 (54 + 4 * (2 + x) + 1) + (μ5 5 (54 + 4 * 1) + μ5 5 (54 + 4 * 1 + 1)))) (κ' := κ2) (μ' := μ6) ?_ ?_ hcf hfr hat h00
          · rw [w32_of x1 x2, w32_of (a := -1) (by decide) (by decide), if_neg hd, ew, zCm_I, zMg_vw, w32_of (by decide) (by decide), if_neg (by decide), st, zCm_J, zMg_vw, st7, zCm_J, zMg_vw]
          · rw [w32_of (by omega) (by omega), if_neg (by omega), ow1, zC_J]
            unfold J_Model_owed_116
            rw [zLet_eq, r6, zC_V]
        · have e2 : q_lo (μ 2) x = 0 := by unfold q_lo; rw [if_neg hd, if_neg h3]
          rw [e2]
          rw [if_neg h3] at ew
          refine z_face.ok (v := zJ (μ5 5 (54 + 4 * 0) + μ5 5 (54 + 4 * 0 + 1))) (κ' := κ2) (μ' := μ6) ?_ ?_ hcf hfr hat h00
          · unfold J_Ledger_owed_144
            rw [w32_of x1 x2, w32_of (a := -1) (by decide) (by decide), if_neg hd, ew, zCm_I, zMg_vw, w32_of (by decide) (by decide), if_pos rfl, st6, zCm_J, zMg_vw]
          · unfold J_Model_owed_116
            simp (disch := omega) only [Int.add_zero, Int.mul_zero, Int.reduceMul, Int.reduceAdd, Int.mul_one, Int.tdiv_eq_ediv_of_nonneg, Int.tmod_eq_emod_of_nonneg, ↓reduceIte, ↓zLet_eq, ↓zRd_ok, ↓zWr_ok, ↓zC_V, ↓zC_I, ↓zC_J, zUp_at, zUp_ne, q_up_at, q_up_ne, w32_of, w64_of, q_le_T, q_le_F, q_lt_T, q_lt_F, q_eq_T, q_eq_F, true_or, or_true, or_false, false_or, false_and, and_false, r6]
    · refine z_face.th (v := zJ 0) (E := eIAE) (n := 2) M ?_ ?_ (by decide) (by decide +kernel)
      · unfold F_Ledger_owed J_Ledger_owed_44
        by_cases h0 : y < 0
        · simp (disch := omega) only [Int.add_zero, Int.mul_zero, Int.reduceMul, Int.reduceAdd, Int.mul_one, Int.tdiv_eq_ediv_of_nonneg, Int.tmod_eq_emod_of_nonneg, ↓reduceIte, ↓zLet_eq, ↓zRd_ok, ↓zWr_ok, ↓zC_V, ↓zC_I, ↓zC_J, zUp_at, zUp_ne, q_up_at, q_up_ne, w32_of, w64_of, q_le_T, q_le_F, q_lt_T, q_lt_F, q_eq_T, q_eq_F, true_or, or_true, or_false, false_or, false_and, and_false, eY]
        · by_cases h1 : 60 < y
          · simp (disch := omega) only [Int.add_zero, Int.mul_zero, Int.reduceMul, Int.reduceAdd, Int.mul_one, Int.tdiv_eq_ediv_of_nonneg, Int.tmod_eq_emod_of_nonneg, ↓reduceIte, ↓zLet_eq, ↓zRd_ok, ↓zWr_ok, ↓zC_V, ↓zC_I, ↓zC_J, zUp_at, zUp_ne, q_up_at, q_up_ne, w32_of, w64_of, q_le_T, q_le_F, q_lt_T, q_lt_F, q_eq_T, q_eq_F, true_or, or_true, or_false, false_or, false_and, and_false, eY]
          · simp (disch := omega) only [Int.add_zero, Int.mul_zero, Int.reduceMul, Int.reduceAdd, Int.mul_one, Int.tdiv_eq_ediv_of_nonneg, Int.tmod_eq_emod_of_nonneg, ↓reduceIte, ↓zLet_eq, ↓zRd_ok, ↓zWr_ok, ↓zC_V, ↓zC_I, ↓zC_J, zUp_at, zUp_ne, q_up_at, q_up_ne, w32_of, w64_of, q_le_T, q_le_F, q_lt_T, q_lt_F, q_eq_T, q_eq_F, true_or, or_true, or_false, false_or, false_and, and_false, eY]
      · unfold F_Model_owed J_Model_owed_52 J_Model_owed_57
        by_cases h0 : 0 ≤ y ∧ y ≤ 60
        · simp (disch := omega) only [Int.add_zero, Int.mul_zero, Int.reduceMul, Int.reduceAdd, Int.mul_one, Int.tdiv_eq_ediv_of_nonneg, Int.tmod_eq_emod_of_nonneg, ↓reduceIte, ↓zLet_eq, ↓zRd_ok, ↓zWr_ok, ↓zC_V, ↓zC_I, ↓zC_J, zUp_at, zUp_ne, q_up_at, q_up_ne, w32_of, w64_of, q_le_T, q_le_F, q_lt_T, q_lt_F, q_eq_T, q_eq_F, true_or, or_true, or_false, false_or, false_and, and_false, z_isInY]
        · simp (disch := omega) only [Int.add_zero, Int.mul_zero, Int.reduceMul, Int.reduceAdd, Int.mul_one, Int.tdiv_eq_ediv_of_nonneg, Int.tmod_eq_emod_of_nonneg, ↓reduceIte, ↓zLet_eq, ↓zRd_ok, ↓zWr_ok, ↓zC_V, ↓zC_I, ↓zC_J, zUp_at, zUp_ne, q_up_at, q_up_ne, w32_of, w64_of, q_le_T, q_le_F, q_lt_T, q_lt_F, q_eq_T, q_eq_F, true_or, or_true, or_false, false_or, false_and, and_false, z_isInY, z_isInN]
  · have eY := kN_don k4 hdl hx (by omega)
    refine z_face.th (v := zJ 0) (E := eIOB) (n := 1) M ?_ ?_ (by decide) (by decide +kernel)
    · unfold F_Ledger_owed
      simp (disch := omega) only [Int.add_zero, Int.mul_zero, Int.reduceMul, Int.reduceAdd, Int.mul_one, Int.tdiv_eq_ediv_of_nonneg, Int.tmod_eq_emod_of_nonneg, ↓reduceIte, ↓zLet_eq, ↓zRd_ok, ↓zWr_ok, ↓zC_V, ↓zC_I, ↓zC_J, zUp_at, zUp_ne, q_up_at, q_up_ne, w32_of, w64_of, q_le_T, q_le_F, q_lt_T, q_lt_F, q_eq_T, q_eq_F, true_or, or_true, or_false, false_or, false_and, and_false, eY]
    · unfold F_Model_owed J_Model_owed_57
      simp (disch := omega) only [Int.add_zero, Int.mul_zero, Int.reduceMul, Int.reduceAdd, Int.mul_one, Int.tdiv_eq_ediv_of_nonneg, Int.tmod_eq_emod_of_nonneg, ↓reduceIte, ↓zLet_eq, ↓zRd_ok, ↓zWr_ok, ↓zC_V, ↓zC_I, ↓zC_J, zUp_at, zUp_ne, q_up_at, q_up_ne, w32_of, w64_of, q_le_T, q_le_F, q_lt_T, q_lt_F, q_eq_T, q_eq_F, true_or, or_true, or_false, false_or, false_and, and_false, z_isInN]
end FQ
