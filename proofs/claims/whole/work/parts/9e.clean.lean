/-! ===== face: clean ===== -/
section GK
variable {m dl a : Nat} {x y z : Int} {κ μ ν : ZMem} {tm s : Int → Int}
theorem q_cw_nm : q_cw tm (q_nm s) = q_cw tm s := by
  unfold q_cw q_ou q_hl q_due
  rw [q_nm_lo (k := 91) (by omega), q_nm_lo (k := 86) (by omega), q_nm_lo (k := 57) (by omega), q_nm_lo (k := 88) (by omega), q_nm_lo (k := 87) (by omega)]
theorem z_clean (hf : q_fu m dl (μ 2) (μ 4) (μ 3)) (hj : q_jo m dl (μ 2) (μ 4) (μ 3) (μ 8) a) (C : c_at m dl a (μ 2) (μ 4) (μ 3) (μ 8) κ) (K : Int → ZMem → Option ZRes) (c1 : Int) : ∀ (n fu fu' : Nat) (κ1 ν : ZMem), n < fu → n + 1 < fu' → n ≤ 51 → c_fr κ κ1 → m_tr m dl a 2 μ ν → ∃ r κ2 ν', L_Ledger_clean_6 (fun μ8 => some (.inr (some (zI (-1))), μ8)) fu ((n : Int) - 1) κ1 = some (.inr (some (zI r)), κ2) ∧ L_Model_clean_21 c1 K fu' ((n : Int) - 1) 0 ν = K r ν' ∧ c_fr κ κ2 ∧ m_tr m dl a 2 μ ν'
  | 0, fu + 1, fu' + 1, κ1, ν, _, _, _, fr, R => by
    refine ⟨-1, κ1, ν, ?_, ?_, fr, R⟩
    · rw [L_Ledger_clean_6, w32_of (by omega) (by omega), if_pos (by omega)]
    · rw [L_Model_clean_21, w32_of (by omega) (by omega), if_pos (by omega)]
      rfl
  | n + 1, fu + 1, fu' + 1, κ1, ν, h, h', hn, fr, R => by
    have e : ((n + 1 : Nat) : Int) - 1 = n := by omega
    have ed : (n : Int) + (-1) = (n : Int) - 1 := by omega
    have ht' : q_tm (q_up (μ 2) 2 n) := hf.2.2.1.set (k := 2) (y := n) (by decide) (by omega) (show (n : Int) ≤ 50 by omega)
    obtain ⟨κ2, c2', b2, f2⟩ := k_under (x := 2) (y := n) (C.fr fr) hf hj (by decide) (by decide) ht'
    obtain ⟨ν2, r2, R2, e2, h5, at2⟩ := R.step (y := n) (by decide) (by decide) ht'
    have fr2 : c_fr κ κ2 := fr.tr (c_fr.under (ex := μ 4) (pr := μ 3) (J := μ 8) f2)
    have hf' : q_fu m dl (q_up (μ 2) 2 n) (μ 4) (μ 3) := ⟨hf.1, hf.2.1, ht', hf.2.2.2⟩
    have hj' : q_jo m dl (q_up (μ 2) 2 n) (μ 4) (μ 3) (μ 8) a := hj.terms hf (q_up_ne (by omega))
    obtain ⟨hi, b0, b1, q0, q1⟩ := q_run_B (k := a) hf' hj' (Nat.le_refl _)
    have h91 := hi.2.2.2.1.2.2.2.2.2
    have e337 : κ2 33 7 = (q_run m (q_up (μ 2) 2 n) (μ 4) (μ 3) (μ 8) a).1 91 := by
      have : κ2 33 7 = q_nm (q_run m (q_up (μ 2) 2 n) (μ 4) (μ 3) (μ 8) a).1 91 := b2.2.2.2.2.2.2.2
      rw [this, q_nm_lo (by omega)]
    have e373 : κ2 37 3 = (q_run m (q_up (μ 2) 2 n) (μ 4) (μ 3) (μ 8) a).1 89 := by
      have : κ2 37 3 = q_nm (q_run m (q_up (μ 2) 2 n) (μ 4) (μ 3) (μ 8) a).1 89 := b2.2.2.2.2.1 3 (by decide) (by decide)
      rw [this, q_nm_lo (by omega)]
    have ecl := b_clawDue b2 (hi.nm hf.1) (by omega) (by omega) ht'
    rw [q_cw_nm] at ecl
    have ecw := m_claw0 (μ := ν2) (m := m) (dl := dl) (B := 6 * a + 2 * (q_run m (q_up (μ 2) 2 n) (μ 4) (μ 3) (μ 8) a).1 90) (by rw [h5]; exact hi) (by omega) (by omega) (by rw [e2]; exact ht')
    rw [e2, h5] at ecw
    have e91 : ν2 5 91 = (q_run m (q_up (μ 2) 2 n) (μ 4) (μ 3) (μ 8) a).1 91 := by rw [h5]
    have e89 : ν2 5 89 = (q_run m (q_up (μ 2) 2 n) (μ 4) (μ 3) (μ 8) a).1 89 := by rw [h5]
    have w0 : w64 0 = 0 := w64_of (by decide) (by decide)
    have fin : ∀ v, ∃ r κ3 ν', J_Ledger_clean_37 (fun v1 μ => L_Ledger_clean_6 (fun μ8 => some (.inr (some (zI (-1))), μ8)) fu v1 μ) (fun μ8 => some (.inr (some (zI (-1))), μ8)) n v κ2 = some (.inr (some (zI r)), κ3) ∧ J_Model_clean_66 (fun v2 v3 μ => L_Model_clean_21 c1 K fu' v2 v3 μ) K c1 n v ν2 = K r ν' ∧ c_fr κ κ3 ∧ m_tr m dl a 2 μ ν' := fun v => by
      unfold J_Ledger_clean_37 J_Model_clean_66 J_Model_clean_76 J_Model_clean_87
      by_cases hv : w64 v = w64 0
      · rw [if_pos hv, if_pos hv, w32_of (by decide) (by decide), if_neg (by decide), zLet_eq, Int.sub_zero]
        obtain ⟨g, rfl⟩ : ∃ g, fu' = g + 1 := ⟨fu' - 1, by omega⟩
        refine ⟨n, κ2, ν2, rfl, ?_, fr2, R2⟩
        show L_Model_clean_21 c1 K (g + 1) n 1 ν2 = _
        rw [L_Model_clean_21, w32_of (by omega) (by omega), if_neg (by omega), w32_of (by decide) (by decide), if_neg (by decide)]
      · rw [if_neg hv, if_neg hv, w32_of (by decide) (by decide), if_pos rfl, zLet_eq, zLet_eq, ed]
        exact z_clean hf hj C K c1 n fu fu' κ2 ν2 (by omega) (by omega) (by omega) fr2 R2
    rw [L_Ledger_clean_6, L_Model_clean_21, e, w32_of (by omega) (by omega), if_neg (by omega), if_neg (by omega), c2', zC_Rc, e337, w32_of (a := 0) (by decide) (by decide), if_pos (rfl : (0 : Int) = 0), zWr_ok (by decide) (by decide) (by decide), r2, zC_V, zRd_ok (by decide) (by decide) (by decide), e373, zRd_ok (by decide) (by decide) (by decide), e91]
    by_cases h0 : (q_run m (q_up (μ 2) 2 n) (μ 4) (μ 3) (μ 8) a).1 91 = 0
    · rw [h0, w32_of (by decide) (by decide), if_pos rfl, if_neg (by rw [w0, w64_of (by decide) (by decide)]; decide), ecl, zCm_J, zMg_vw, ecw, zC_J]
      exact fin _
    · have h1 : (q_run m (q_up (μ 2) 2 n) (μ 4) (μ 3) (μ 8) a).1 91 = 1 := by omega
      rw [h1, w32_of (by decide) (by decide), if_neg (by decide), if_pos rfl, zRd_ok (by decide) (by decide) (by decide), e89]
      exact fin _
theorem face_clean (h : z_rest m dl a κ μ) (hT : m_top μ) : z_face [] m dl a κ μ (F_Ledger_clean κ) (F_Model_clean μ) := by
  obtain ⟨hf, h6, hdl, ht, ⟨m5, m6, m11, ha⟩, ⟨k3, k4, k11⟩, hi, hq, hs⟩ := h.all
  obtain ⟨M, C⟩ := h
  obtain ⟨r, κ2, ν, c1, e1, fr, R⟩ := z_clean hf M.2.2.1 C (fun k13 μ12 => zWr μ12 2 7 2 (μ 2 2) (fun μ14 => zC (F_Model_worksOut μ14) (zkV (fun μ15 => some (.inr (some (zI k13)), μ15))) zX0)) (μ 2 2) 51 zN zN κ (zUp μ 0 0 0) (zN_gt (by decide)) (zN_gt (by decide)) (Nat.le_refl _) (c_fr.rf κ) (m_tr.start M)
  obtain ⟨ν2, r2, hfr, at2, h00⟩ := R.back (by decide) (by decide) ht
  have e50 : ((51 : Nat) : Int) - 1 = 50 := by decide
  rw [e50] at c1 e1
  have t1 : zUp μ 0 0 0 1 2 = 50 := by rw [zUp_ne (by decide)]; exact hT 2 (by decide)
  have w2 : zUp μ 0 0 0 2 = μ 2 := zUp_ne (by decide)
  refine z_face.ok (v := zI r) (κ' := κ2) (μ' := ν2) ?_ ?_ fr hfr at2 h00
  · unfold F_Ledger_clean
    exact (zTop_ok (k := 2) (by decide)).trans c1
  · unfold F_Model_clean
    rw [zLet_eq, zRd_ok (by decide) (by decide) (by decide), w2, zRd_ok (by decide) (by decide) (by decide), t1]
    refine e1.trans ?_
    rw [zWr_ok (by decide) (by decide) (by decide), r2, zC_V]
end GK
