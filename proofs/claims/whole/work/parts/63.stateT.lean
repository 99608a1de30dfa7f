/-! ===== the class's state (traced): a quarter, an act ===== -/
section ST
variable {m dl : Nat} {B d sum : Int} {tm ex pr : Int → Int} {σ : QS} {μ : ZMem}
theorem s_T.books {ν : ZMem} {s' : Int → Int} (h : s_T m dl tm ex σ μ) (h6 : m ≤ 6) (hb : b_bk dl tm s' ν) (e : ∀ k, 0 ≤ k → k < 30 → s' k = σ.1 k) : s_T m dl tm ex (s', σ.2) (zMg plB μ ν) := by
  obtain ⟨⟨-, hr⟩, h2, hg, hn, hN, hF⟩ := h
  refine ⟨⟨hb.mgB, (hr.mgB).congr h6 e⟩, h2, fun i i0 i1 => ?_, hn, hN, hF⟩
  simp only []
  rw [e _ (by omega) (by omega)]
  exact hg i i0 i1
theorem s_T.reg {ν : ZMem} {s' : Int → Int} (h : s_T m dl tm ex σ μ) (hr : r_rg m ex s' ν) (e : ∀ k, 30 ≤ k → k < 92 → s' k = σ.1 k) (eg : ∀ i : Int, 0 ≤ i → i < m → s' (5 * i + 3) = σ.1 (5 * i + 3)) (e4 : ν 4 = μ 11) : s_T m dl tm ex (s', σ.2) (zMg plR μ ν) := by
  obtain ⟨⟨hb, -⟩, h2, hg, hn, hN, hF⟩ := h
  refine ⟨⟨(hb.mgR).congr e, hr.mgR⟩, h2, fun i i0 i1 => ?_, hn, hN, hF⟩
  simp only []
  rw [eg i i0 i1, ← hg i i0 i1, ← e4]
  rfl
theorem s_T.f0 {k v : Int} (h : s_T m dl tm ex σ μ) (hk : k ≠ 2) : s_T m dl tm ex σ (zUp μ 0 k v) := by
  obtain ⟨⟨hb, hr⟩, h2, hg, hn, hN, hF⟩ := h
  have z : ∀ c, c ≠ 0 → zUp μ 0 k v c = μ c := fun c hc => zUp_ne hc
  refine ⟨⟨hb.vw (z 1 (by decide)) (z 2 (by decide)) (z 3 (by decide)) (z 4 (by decide)) (z 5 (by decide)), hr.vw (z 7 (by decide)) (z 8 (by decide)) (z 9 (by decide)) (z 10 (by decide)) (z 12 (by decide))⟩, ?_, fun i i0 i1 => ?_, fun i q i0 i1 q0 q1 => ?_, fun q q0 q1 => ?_, fun q q0 q1 => ?_⟩
  · rw [zUp_at, q_up_ne (Ne.symm hk)]
    exact h2
  · rw [z 11 (by decide)]; exact hg i i0 i1
  · rw [z 17 (by decide)]; exact hn i q i0 i1 q0 q1
  · rw [z 17 (by decide)]; exact hN q q0 q1
  · rw [z 18 (by decide)]; exact hF q q0 q1
theorem t_fullFee (h : s_T m dl tm ex σ μ) (hi : q_inv m dl B σ.1) (h6 : m ≤ 6) (ht : q_tm tm) : F_State_fullFee μ = some (.inr (some (zJ (tm 6 * q_sm (fun i => σ.1 (5 * i)) m / 10000))), μ) := by
  obtain ⟨⟨hb, hr⟩, -⟩ := h
  have t6 : μ 2 6 = tm 6 := hb.1 6 (by decide) (by decide)
  obtain ⟨-, -, -, -, -, -, ⟨c1, c2⟩⟩ := ht
  have b3 : 0 ≤ q_sm (fun i => σ.1 (5 * i)) m := q_sm_nonneg (fun i hii => by have := (hi.1 i hii).1; omega)
  have b4 : q_sm (fun i => σ.1 (5 * i)) m ≤ 6 * 9999 := q_sm_bd6 h6 (by decide) (fun i hii => by have := hi.1 i hii; omega)
  have hp := q_mb c1 c2 b3 b4
  have e := r_allOf1 hr hi.1 h6
  unfold F_State_fullFee
  simp (disch := omega) only [Int.add_zero, Int.mul_zero, Int.reduceMul, Int.reduceAdd, Int.mul_one, Int.tdiv_eq_ediv_of_nonneg, Int.tmod_eq_emod_of_nonneg, ↓reduceIte, ↓zLet_eq, ↓zRd_ok, ↓zWr_ok, ↓zC_V, ↓zC_I, ↓zC_J, zUp_at, zUp_ne, q_up_at, q_up_ne, w32_of, w64_of, q_le_T, q_le_F, q_lt_T, q_lt_F, q_eq_T, q_eq_F, true_or, or_true, or_false, false_or, false_and, and_false, e, ↓zCm_J, zMg_vw, t6]
theorem t_pass41 {fee : Int} (h : s_T m dl tm ex σ μ) (hi : q_inv m dl B σ.1) (h6 : m ≤ 6) (ht : q_tm tm) (hB0 : 0 ≤ B) (hB1 : B ≤ 900) (hf0 : 0 ≤ fee) (hf1 : fee ≤ 59994) : ∃ μ', J_State_passQuarter_41 fee μ = some (.inr none, μ') ∧ s_T m dl tm ex (q_qb tm fee σ.1, σ.2.1, σ.2.2.1, q_up σ.2.2.2 (σ.1 90) fee) μ' ∧ μ' 0 = μ 0 ∧ (∀ c, 19 ≤ c → μ' c = μ c) := by
  have hq := hi.2.2.2.1.2.2.2.2.1
  have hb := h.1.1
  have e16 : μ 1 6 = σ.1 90 := hb.2.2.2.2.2.2.1
  have eqb : ∀ k, 0 ≤ k → k < 30 → q_qb tm fee σ.1 k = σ.1 k := fun k k0 k1 => by
    unfold q_qb
    rw [if_neg (by omega), if_neg (by omega), if_neg (by omega), q_pf_at (by omega)]
  unfold J_State_passQuarter_41 J_State_passQuarter_64
  have e02 : μ 0 2 = 1 := h.2.1
  have h' : s_T m dl tm ex (σ.1, σ.2.1, σ.2.2.1, q_up σ.2.2.2 (σ.1 90) fee) (zUp μ 18 (σ.1 90) fee) := by
    obtain ⟨⟨hb, hr⟩, h2, hg, hn, hN, hF⟩ := h
    have z : ∀ c, c ≠ 18 → zUp μ 18 (σ.1 90) fee c = μ c := fun c hc => zUp_ne hc
    refine ⟨⟨hb.vw (z 1 (by decide)) (z 2 (by decide)) (z 3 (by decide)) (z 4 (by decide)) (z 5 (by decide)), hr.vw (z 7 (by decide)) (z 8 (by decide)) (z 9 (by decide)) (z 10 (by decide)) (z 12 (by decide))⟩, by rw [z 0 (by decide)]; exact h2, fun i i0 i1 => by rw [z 11 (by decide)]; exact hg i i0 i1, fun i q i0 i1 q0 q1 => by rw [z 17 (by decide)]; exact hn i q i0 i1 q0 q1, fun q q0 q1 => by rw [z 17 (by decide)]; exact hN q q0 q1, fun q q0 q1 => ?_⟩
    show zUp μ 18 (σ.1 90) fee 18 q = q_up σ.2.2.2 (σ.1 90) fee q
    rw [zUp_at]
    unfold q_up
    by_cases eq : q = σ.1 90
    · rw [if_pos eq, if_pos eq]
    · rw [if_neg eq, if_neg eq]
      exact hF q q0 q1
  obtain ⟨ν, r, hb2⟩ := b_pass (fee := fee) h'.1.1 hi hB0 hB1 ht hf0 hf1
  simp (disch := omega) only [Int.add_zero, Int.mul_zero, Int.reduceMul, Int.reduceAdd, Int.mul_one, Int.tdiv_eq_ediv_of_nonneg, Int.tmod_eq_emod_of_nonneg, ↓reduceIte, ↓zLet_eq, ↓zRd_ok, ↓zWr_ok, ↓zC_V, ↓zC_I, ↓zC_J, zUp_at, zUp_ne, q_up_at, q_up_ne, w32_of, w64_of, q_le_T, q_le_F, q_lt_T, q_lt_F, q_eq_T, q_eq_F, true_or, or_true, or_false, false_or, false_and, and_false, e16, e02, r, ↓zCm_V]
  refine ⟨_, rfl, h'.books h6 hb2 eqb, ?_, fun c hc => ?_⟩
  · rw [zMg_out (by decide), zUp_ne (by decide)]
  · rw [zMg_out (by simp; omega), zUp_ne (by omega)]
theorem t_weigh (h : s_T m dl tm ex σ μ) (hi : q_inv m dl B σ.1) (h6 : m ≤ 6) (d0 : -1 ≤ d) (d1 : d < 6) : ∃ μ1, (∀ (K : ZMem → Option ZRes) X, zCm plR μ (F_Register_weighUncalled d (zVw plR μ)) (zkV K) X = K μ1) ∧ s_T m dl tm ex σ μ1 ∧ (∀ i : Nat, i < m → μ1 13 i = q_wp ex σ.1 d i) ∧ (∀ c, c ≠ 13 → μ1 c = μ c) := by
  have hr := h.1.2
  have e := r_weighUncalled (d := d) hr hi.1 h6 d0 d1
  have fr : ∀ c, c ≠ 13 → zMg plR μ (q_fi (zVw plR μ) 6 (q_wp ex σ.1 d) m) c = μ c := fun c c13 => zMg_fr (bad := [6]) (fun j hj => q_fi_ne (fun e => hj (by simp [e]))) (fun hm => by
    have : c = 13 := by simpa [zRho] using hm
    exact c13 this)
  refine ⟨zMg plR μ (q_fi (zVw plR μ) 6 (q_wp ex σ.1 d) m), fun K X => by rw [e, zCm_V], ?_, fun i hii => ?_, fr⟩
  · obtain ⟨⟨hb, hr⟩, h2, hg, hn, hN, hF⟩ := h
    refine ⟨⟨hb.vw (fr 1 (by decide)) (fr 2 (by decide)) (fr 3 (by decide)) (fr 4 (by decide)) (fr 5 (by decide)), hr.vw (fr 7 (by decide)) (fr 8 (by decide)) (fr 9 (by decide)) (fr 10 (by decide)) (fr 12 (by decide))⟩, by rw [fr 0 (by decide)]; exact h2, fun i i0 i1 => by rw [fr 11 (by decide)]; exact hg i i0 i1, fun i q i0 i1 q0 q1 => by rw [fr 17 (by decide)]; exact hn i q i0 i1 q0 q1, fun q q0 q1 => by rw [fr 17 (by decide)]; exact hN q q0 q1, fun q q0 q1 => by rw [fr 18 (by decide)]; exact hF q q0 q1⟩
  · rw [zMg_in (j := 6) rfl]
    exact q_fi_in (by omega) (by omega)
theorem t_passQuarter (h : s_T m dl tm ex σ μ) (hi : q_inv m dl B σ.1) (h6 : m ≤ 6) (ht : q_tm tm) (hB0 : 0 ≤ B) (hB1 : B ≤ 800) : ∃ μ', F_State_passQuarter μ = some (.inr none, μ') ∧ s_T m dl tm ex (q_qt m tm ex σ) μ' ∧ μ' 0 = μ 0 ∧ (∀ c, 19 ≤ c → μ' c = μ c) := by
  have hfe := q_fee_in (tm := tm) hi.1 h6 ht
  have hr := h.1.2
  have b1 : 0 ≤ q_sm (fun i => σ.1 (5 * i + 1)) m := q_sm_nonneg (fun i hii => (hi.1 i hii).2.1.1)
  have b2 : q_sm (fun i => σ.1 (5 * i + 1)) m ≤ 6 * 9999 := q_sm_bd6 h6 (by decide) (fun i hii => by have := hi.1 i hii; omega)
  have b3 : 0 ≤ q_sm (fun i => σ.1 (5 * i)) m := q_sm_nonneg (fun i hii => by have := (hi.1 i hii).1; omega)
  have b4 : q_sm (fun i => σ.1 (5 * i)) m ≤ 6 * 9999 := q_sm_bd6 h6 (by decide) (fun i hii => by have := hi.1 i hii; omega)
  have hp := q_mb ht.2.2.2.2.2.2.1 ht.2.2.2.2.2.2.2 b3 b4
  have ef : q_min (tm 6 * q_sm (fun i => σ.1 (5 * i)) m / 10000) (q_sm (fun i => σ.1 (5 * i + 1)) m) = q_fee m tm σ.1 := q_min_comm _ _
  have eq : q_qt m tm ex σ = (q_qb tm (q_fee m tm σ.1) (q_pay m ex (-1) (q_fee m tm σ.1) σ).1, (q_pay m ex (-1) (q_fee m tm σ.1) σ).2.1, σ.2.2.1, q_up σ.2.2.2 (σ.1 90) (q_fee m tm σ.1)) := rfl
  rw [eq]
  unfold F_State_passQuarter
  rw [t_fullFee h hi h6 ht]
  simp (disch := omega) only [↓zC_J, r_allOf2 hr hi.1 h6, ↓zCm_J, zMg_vw, ↓zLet_eq, zminJ_eq, ef]
  by_cases hz : q_fee m tm σ.1 ≤ 0
  · have h0 : q_fee m tm σ.1 = 0 := by omega
    rw [w64_of (by omega) (by omega), w64_of (by omega) (by omega), if_pos hz]
    obtain ⟨μ', r, h', e0, ec⟩ := t_pass41 (fee := q_fee m tm σ.1) h hi h6 ht hB0 (by omega) hfe.1 hfe.2.1
    refine ⟨μ', r, ?_, e0, ec⟩
    rw [h0] at h' ⊢
    rw [q_pay_0 hi.1]
    exact h'
  · rw [w64_of (by omega) (by omega), w64_of (by omega) (by omega), if_neg hz]
    obtain ⟨μ1, r1, h1, hw, f1⟩ := t_weigh (d := -1) h hi h6 (by decide) (by decide)
    rw [r1]
    obtain ⟨μ2, r2, h2, e02, ec2⟩ := t_takeIn (sum := q_fee m tm σ.1) h1 hw hi h6 hfe.1 (by omega)
    rw [r2]
    simp only [↓zC_V]
    have hi2 := hi.payS (ex := ex) (d := -1) h6 hfe.1 (by rw [q_wp_all]; exact hfe.2.2)
    obtain ⟨μ', r, h', e0, ec⟩ := t_pass41 (fee := q_fee m tm σ.1) h2 hi2 h6 ht (by omega) (by omega) hfe.1 hfe.2.1
    refine ⟨μ', r, ?_, by rw [e0, e02, f1 0 (by decide)], fun c hc => by rw [ec c hc, ec2 c hc, f1 c (by omega)]⟩
    have e90 : (q_pay m ex (-1) (q_fee m tm σ.1) σ).1 90 = σ.1 90 := q_py_hi (by omega)
    rw [e90] at h'
    exact h'
theorem t_wait (h : s_T m dl tm ex σ μ) (hi : q_inv m dl B σ.1) (h6 : m ≤ 6) (hdl : dl ≤ 6) (ht : q_tm tm) (hB0 : 0 ≤ B) (hB1 : B + 2 * (200 - σ.1 90) ≤ 760) (hs0 : 0 ≤ sum) (hs1 : σ.1 90 + sum ≤ 200) (K : ZMem → Option ZRes) : ∃ μ', L_State_perform_163 sum K zN 0 μ = K μ' ∧ s_T m dl tm ex (q_wn m tm ex sum.toNat σ) μ' ∧ μ' 0 = μ 0 ∧ (∀ c, 19 ≤ c → μ' c = μ c) := by
  have hq := hi.2.2.2.1.2.2.2.2.1
  obtain ⟨⟨v, ν⟩, e, j, rfl, hj, hs, h0, hc⟩ := q_loop (L := fun n (a : Int × ZMem) => L_State_perform_163 sum K n a.1 a.2) (P := fun k a => ∃ j : Nat, a.1 = j ∧ j + k = sum.toNat ∧ s_T m dl tm ex (q_wn m tm ex j σ) a.2 ∧ a.2 0 = μ 0 ∧ (∀ c, 19 ≤ c → a.2 c = μ c)) (fun n k a hh => by
      obtain ⟨v, ν⟩ := a
      obtain ⟨j, rfl, hj, hs, h0, hc⟩ := hh
      simp only [] at hs h0 hc ⊢
      obtain ⟨i1, i2⟩ := hi.wn (tm := tm) (ex := ex) h6 hdl ht hB0 hB1 j (by omega)
      obtain ⟨ν', r, hs', h0', hc'⟩ := t_passQuarter hs i1 h6 ht (by omega) (by omega)
      refine ⟨(j + 1, ν'), ?_, j + 1, rfl, by omega, hs', h0'.trans h0, fun c hcc => (hc' c hcc).trans (hc c hcc)⟩
      simp (disch := omega) only [L_State_perform_163, Int.add_zero, Int.mul_zero, Int.reduceMul, Int.reduceAdd, Int.mul_one, Int.tdiv_eq_ediv_of_nonneg, Int.tmod_eq_emod_of_nonneg, ↓reduceIte, ↓zLet_eq, ↓zRd_ok, ↓zWr_ok, ↓zC_V, ↓zC_I, ↓zC_J, zUp_at, zUp_ne, q_up_at, q_up_ne, w32_of, w64_of, q_le_T, q_le_F, q_lt_T, q_lt_F, q_eq_T, q_eq_F, true_or, or_true, or_false, false_or, false_and, and_false, r]) sum.toNat zN (0, μ) ⟨0, rfl, by omega, h, rfl, fun _ _ => rfl⟩ (Nat.le_of_lt (zN_gt (by omega)))
  simp only [] at e hs h0 hc
  obtain rfl : j = sum.toNat := by omega
  refine ⟨ν, ?_, hs, h0, hc⟩
  rw [e]
  obtain ⟨n, hn⟩ : ∃ n, zN - sum.toNat = n + 1 := ⟨zN - sum.toNat - 1, by have := zN_gt (m := sum.toNat) (by omega); omega⟩
  rw [hn]
  simp (disch := omega) only [L_State_perform_163, Int.add_zero, Int.mul_zero, Int.reduceMul, Int.reduceAdd, Int.mul_one, Int.tdiv_eq_ediv_of_nonneg, Int.tmod_eq_emod_of_nonneg, ↓reduceIte, ↓zLet_eq, ↓zRd_ok, ↓zWr_ok, ↓zC_V, ↓zC_I, ↓zC_J, zUp_at, zUp_ne, q_up_at, q_up_ne, w32_of, w64_of, q_le_T, q_le_F, q_lt_T, q_lt_F, q_eq_T, q_eq_F, true_or, or_true, or_false, false_or, false_and, and_false]
theorem t_perf110 {who last : Int} (h : s_T m dl tm ex σ μ) (hi : q_inv m dl B σ.1) (hf : q_fu m dl tm ex pr) (hm : 0 < m) (hB0 : 0 ≤ B) (hB1 : B ≤ 760) (w0 : 0 ≤ who) (w1 : who < dl) (hs0 : 0 ≤ sum) (hs1 : sum ≤ 9999) (hl : last = 0 ∨ last = 1) : ∃ μ', J_State_perform_110 who last sum who μ = some (.inr (some (zJ (q_slM tm who sum σ.1))), μ') ∧ s_T m dl tm ex (q_sell m tm ex who sum last σ) μ' ∧ μ' 0 4 = sum - q_slM tm who sum σ.1 ∧ μ' 0 5 = q_slM tm who sum σ.1 ∧ (∀ c, 19 ≤ c → μ' c = μ c) := by
  have h6 := hf.1
  have hdl := hf.2.1
  have ht := hf.2.2.1
  have hM := q_slM_in hi h6 hdl ht hB0 w0 w1 hs0 hs1
  obtain ⟨ν, r, hb, g4, g5⟩ := b_sellDeal (d := who) (sum := sum) (last := last) h.1.1 hi h6 hdl hB0 (by omega) ht w0 w1 hs0 hs1 hl
  have h1 : s_T m dl tm ex (q_sb tm who sum last σ.1, σ.2) (zMg plB μ ν) := h.books h6 hb (fun k k0 k1 => q_sb_at w0 (by omega) (by omega))
  have i1 : q_inv m dl (B + 5) (q_sb tm who sum last σ.1, σ.2).1 := hi.sb h6 hdl ht hB0 (by omega) w0 w1 hs0 hs1
  have e4 : zMg plB μ ν 6 4 = q_slM tm who sum σ.1 := g4
  have e5 : zMg plB μ ν 6 5 = sum - q_slM tm who sum σ.1 := g5
  unfold J_State_perform_110
  rw [r, zCm_V]
  simp (disch := omega) only [Int.add_zero, Int.mul_zero, Int.reduceMul, Int.reduceAdd, Int.mul_one, Int.tdiv_eq_ediv_of_nonneg, Int.tmod_eq_emod_of_nonneg, ↓reduceIte, ↓zLet_eq, ↓zRd_ok, ↓zWr_ok, ↓zC_V, ↓zC_I, ↓zC_J, zUp_at, zUp_ne, q_up_at, q_up_ne, w32_of, w64_of, q_le_T, q_le_F, q_lt_T, q_lt_F, q_eq_T, q_eq_F, true_or, or_true, or_false, false_or, false_and, and_false, e4, e5]
  obtain ⟨μ', r2, h2, e0, ec⟩ := t_handOut (g := sum - q_slM tm who sum σ.1) (d := who) ((h1.f0 (k := 5) (v := q_slM tm who sum σ.1) (by decide)).f0 (k := 4) (v := sum - q_slM tm who sum σ.1) (by decide)) i1 hf hm (Or.inr ⟨w0, w1⟩) (by rw [zUp_at, q_up_at]) (by omega) (by omega)
  rw [r2]
  simp only [↓zC_V]
  refine ⟨μ', ?_, h2, by rw [e0, zUp_at, q_up_at], by rw [e0, zUp_at, q_up_ne (by decide), zUp_at, q_up_at], fun c hc => by rw [ec c hc, zUp_ne (by omega), zUp_ne (by omega)]; exact zMg_out (by simp; omega)⟩
  rw [e0, zUp_at, q_up_ne (by decide), zUp_at, q_up_at]
theorem t_perform {kd who ot : Int} (h : s_T m dl tm ex σ μ) (hi : q_inv m dl B σ.1) (hf : q_fu m dl tm ex pr) (hm : 0 < m) (hB0 : 0 ≤ B) (hB1 : B + 2 * (200 - σ.1 90) ≤ 760) (ha : q_ac m dl kd who sum ot) (hc : q_can m dl ex kd who sum ot σ.1 = 1) : ∃ μ', F_State_perform kd who sum ot μ = some (.inr (some (zJ (q_an m tm ex kd who sum ot σ))), μ') ∧ s_T m dl tm ex (q_do m tm ex kd who sum ot σ) μ' ∧ μ' 0 4 = q_th tm kd who sum σ ∧ μ' 0 5 = q_hr tm kd who sum σ ∧ (∀ c, 19 ≤ c → μ' c = μ c) := by
  have h6 := hf.1
  have hdl := hf.2.1
  have ht := hf.2.2.1
  have hia := hi.act (tm := tm) h6 hdl ht hB0 hB1 ha hc
  obtain ⟨a0, a1, a2, a3, a4, a5, a6, a7⟩ := ha
  have hq := hi.2.2.2.1.2.2.2.2.1
  have hs : s_T m dl tm ex σ (zUp (zUp μ 0 4 0) 0 5 0) := (h.f0 (by decide)).f0 (by decide)
  have s4 : zUp (zUp μ 0 4 0) 0 5 0 0 4 = 0 := by rw [zUp_at, q_up_ne (by decide), zUp_at, q_up_at]
  have s5 : zUp (zUp μ 0 4 0) 0 5 0 0 5 = 0 := by rw [zUp_at, q_up_at]
  have sc : ∀ c, 19 ≤ c → zUp (zUp μ 0 4 0) 0 5 0 c = μ c := fun c hcc => by rw [zUp_ne (by omega), zUp_ne (by omega)]
  unfold F_State_perform
  simp only [↓zLet_eq]
  generalize zUp (zUp μ 0 4 0) 0 5 0 = μ2 at *
  by_cases k0 : kd = 0
  · subst k0
    have w := a1 (by omega)
    have et : q_th tm 0 who sum σ = 0 := by unfold q_th; simp (disch := omega) only [Int.add_zero, Int.mul_zero, Int.reduceMul, Int.reduceAdd, Int.mul_one, Int.tdiv_eq_ediv_of_nonneg, Int.tmod_eq_emod_of_nonneg, ↓reduceIte, ↓zLet_eq, ↓zRd_ok, ↓zWr_ok, ↓zC_V, ↓zC_I, ↓zC_J, zUp_at, zUp_ne, q_up_at, q_up_ne, w32_of, w64_of, q_le_T, q_le_F, q_lt_T, q_lt_F, q_eq_T, q_eq_F, true_or, or_true, or_false, false_or, false_and, and_false]
    have er : q_hr tm 0 who sum σ = 0 := by unfold q_hr; simp (disch := omega) only [Int.add_zero, Int.mul_zero, Int.reduceMul, Int.reduceAdd, Int.mul_one, Int.tdiv_eq_ediv_of_nonneg, Int.tmod_eq_emod_of_nonneg, ↓reduceIte, ↓zLet_eq, ↓zRd_ok, ↓zWr_ok, ↓zC_V, ↓zC_I, ↓zC_J, zUp_at, zUp_ne, q_up_at, q_up_ne, w32_of, w64_of, q_le_T, q_le_F, q_lt_T, q_lt_F, q_eq_T, q_eq_F, true_or, or_true, or_false, false_or, false_and, and_false]
    have ed : q_do m tm ex 0 who sum ot σ = (q_rs tm who sum (q_pay m ex who sum σ).1, (q_pay m ex who sum σ).2) := by unfold q_do; rw [if_pos rfl]
    have ea : q_an m tm ex 0 who sum ot σ = q_sm (fun i => (q_do m tm ex 0 who sum ot σ).1 (5 * i + 1)) m := by unfold q_an; rw [if_pos rfl]
    rw [et, er, ea]
    rw [ed] at hia ⊢
    simp (disch := omega) only [w32_of, ↓reduceIte]
    obtain ⟨μ3, r3, h3, hw, f3⟩ := t_weigh (d := who) hs hi h6 (by omega) (by omega)
    rw [r3]
    obtain ⟨μ4, r4, h4, e04, ec4⟩ := t_takeIn (sum := sum) (d := who) h3 hw hi h6 a4.1 (by omega)
    rw [r4]
    simp only [↓zC_V]
    obtain ⟨ν, r5, -, hb5⟩ := b_raise (d := who) (sum := sum) h4.1.1 ht w.1 (by omega) a4.1 a4.2
    have h5 := h4.books h6 hb5 (fun k k0 k1 => by
      unfold q_rs
      rw [if_neg (by omega), if_neg (by omega), if_neg (by omega)])
    rw [r5, zCm_V]
    simp only [r_allOf2 h5.1.2 hia.1.1 h6, ↓zCm_J, zMg_vw]
    refine ⟨_, rfl, h5, ?_, ?_, fun c hcc => ?_⟩
    · rw [zMg_out (by decide), e04, f3 0 (by decide)]; exact s4
    · rw [zMg_out (by decide), e04, f3 0 (by decide)]; exact s5
    · rw [zMg_out (by simp; omega), ec4 c hcc, f3 c (by omega), sc c hcc]
  have sell : ∀ last, (last = 0 ∨ last = 1) → (kd = 1 ∨ kd = 2) → q_do m tm ex kd who sum ot σ = q_sell m tm ex who sum last σ → q_an m tm ex kd who sum ot σ = q_slM tm who sum σ.1 → ∃ μ', J_State_perform_110 who last sum who μ2 = some (.inr (some (zJ (q_an m tm ex kd who sum ot σ))), μ') ∧ s_T m dl tm ex (q_do m tm ex kd who sum ot σ) μ' ∧ μ' 0 4 = q_th tm kd who sum σ ∧ μ' 0 5 = q_hr tm kd who sum σ ∧ (∀ c, 19 ≤ c → μ' c = μ c) := fun last hl hk ed ea => by
    have w := a1 (by omega)
    obtain ⟨μ', r, h', e4, e5, ec⟩ := t_perf110 (who := who) (sum := sum) (last := last) hs hi hf hm hB0 (by omega) w.1 w.2 a4.1 a4.2 hl
    have et : q_th tm kd who sum σ = sum - q_slM tm who sum σ.1 := by unfold q_th; rw [if_pos hk]
    have er : q_hr tm kd who sum σ = q_slM tm who sum σ.1 := by unfold q_hr; rw [if_pos hk]
    rw [ed, ea, et, er]
    exact ⟨μ', r, h', e4, e5, fun c hcc => (ec c hcc).trans (sc c hcc)⟩
  by_cases k1 : kd = 1
  · have := sell 0 (Or.inl rfl) (Or.inl k1) (by unfold q_do; rw [if_neg k0, if_pos k1]) (by unfold q_an; rw [if_neg k0, if_pos k1])
    subst k1
    simp (disch := omega) only [w32_of, q_eq_F, ↓reduceIte]
    exact this
  by_cases k2 : kd = 2
  · have := sell 1 (Or.inr rfl) (Or.inr k2) (by unfold q_do; rw [if_neg k0, if_neg k1, if_pos k2]) (by unfold q_an; rw [if_neg k0, if_neg k1, if_pos k2])
    subst k2
    simp (disch := omega) only [w32_of, q_eq_F, ↓reduceIte]
    exact this
  have hk12 : ¬ (kd = 1 ∨ kd = 2) := by omega
  have er : q_hr tm kd who sum σ = 0 := by unfold q_hr; rw [if_neg hk12]
  rw [er]
  by_cases k3 : kd = 3
  · subst k3
    have w := a1 (by omega)
    have et : q_th tm 3 who sum σ = 0 := by unfold q_th; simp (disch := omega) only [Int.add_zero, Int.mul_zero, Int.reduceMul, Int.reduceAdd, Int.mul_one, Int.tdiv_eq_ediv_of_nonneg, Int.tmod_eq_emod_of_nonneg, ↓reduceIte, ↓zLet_eq, ↓zRd_ok, ↓zWr_ok, ↓zC_V, ↓zC_I, ↓zC_J, zUp_at, zUp_ne, q_up_at, q_up_ne, w32_of, w64_of, q_le_T, q_le_F, q_lt_T, q_lt_F, q_eq_T, q_eq_F, true_or, or_true, or_false, false_or, false_and, and_false]
    have ed : q_do m tm ex 3 who sum ot σ = (q_up σ.1 (30 + 4 * who + 2) sum, σ.2) := by unfold q_do; simp (disch := omega) only [Int.add_zero, Int.mul_zero, Int.reduceMul, Int.reduceAdd, Int.mul_one, Int.tdiv_eq_ediv_of_nonneg, Int.tmod_eq_emod_of_nonneg, ↓reduceIte, ↓zLet_eq, ↓zRd_ok, ↓zWr_ok, ↓zC_V, ↓zC_I, ↓zC_J, zUp_at, zUp_ne, q_up_at, q_up_ne, w32_of, w64_of, q_le_T, q_le_F, q_lt_T, q_lt_F, q_eq_T, q_eq_F, true_or, or_true, or_false, false_or, false_and, and_false]
    have ea : q_an m tm ex 3 who sum ot σ = σ.1 (30 + 4 * who + 2) := by unfold q_an; simp (disch := omega) only [Int.add_zero, Int.mul_zero, Int.reduceMul, Int.reduceAdd, Int.mul_one, Int.tdiv_eq_ediv_of_nonneg, Int.tmod_eq_emod_of_nonneg, ↓reduceIte, ↓zLet_eq, ↓zRd_ok, ↓zWr_ok, ↓zC_V, ↓zC_I, ↓zC_J, zUp_at, zUp_ne, q_up_at, q_up_ne, w32_of, w64_of, q_le_T, q_le_F, q_lt_T, q_lt_F, q_eq_T, q_eq_F, true_or, or_true, or_false, false_or, false_and, and_false]
    have hD := hi.2.1 who.toNat (by omega)
    rw [Int.toNat_of_nonneg w.1] at hD
    rw [et, ed, ea]
    obtain ⟨ν, r, hb⟩ := b_remark (d := who) (sum := sum) hs.1.1 w.1 (by omega)
    simp (disch := omega) only [w32_of, q_eq_F, ↓reduceIte, r, ↓zCm_I]
    exact ⟨_, rfl, hs.books h6 hb (fun k k0 k1 => q_up_ne (by omega)), by rw [zMg_out (by decide)]; exact s4, by rw [zMg_out (by decide)]; exact s5, fun c hcc => by rw [zMg_out (by simp; omega), sc c hcc]⟩
  by_cases k4 : kd = 4
  · subst k4
    have hw := q_can_wait hc
    have et : q_th tm 4 who sum σ = 0 := by unfold q_th; simp (disch := omega) only [Int.add_zero, Int.mul_zero, Int.reduceMul, Int.reduceAdd, Int.mul_one, Int.tdiv_eq_ediv_of_nonneg, Int.tmod_eq_emod_of_nonneg, ↓reduceIte, ↓zLet_eq, ↓zRd_ok, ↓zWr_ok, ↓zC_V, ↓zC_I, ↓zC_J, zUp_at, zUp_ne, q_up_at, q_up_ne, w32_of, w64_of, q_le_T, q_le_F, q_lt_T, q_lt_F, q_eq_T, q_eq_F, true_or, or_true, or_false, false_or, false_and, and_false]
    have ed : q_do m tm ex 4 who sum ot σ = q_wn m tm ex sum.toNat σ := by unfold q_do; simp (disch := omega) only [Int.add_zero, Int.mul_zero, Int.reduceMul, Int.reduceAdd, Int.mul_one, Int.tdiv_eq_ediv_of_nonneg, Int.tmod_eq_emod_of_nonneg, ↓reduceIte, ↓zLet_eq, ↓zRd_ok, ↓zWr_ok, ↓zC_V, ↓zC_I, ↓zC_J, zUp_at, zUp_ne, q_up_at, q_up_ne, w32_of, w64_of, q_le_T, q_le_F, q_lt_T, q_lt_F, q_eq_T, q_eq_F, true_or, or_true, or_false, false_or, false_and, and_false]
    have ea : q_an m tm ex 4 who sum ot σ = (q_do m tm ex 4 who sum ot σ).1 90 := by unfold q_an; simp (disch := omega) only [Int.add_zero, Int.mul_zero, Int.reduceMul, Int.reduceAdd, Int.mul_one, Int.tdiv_eq_ediv_of_nonneg, Int.tmod_eq_emod_of_nonneg, ↓reduceIte, ↓zLet_eq, ↓zRd_ok, ↓zWr_ok, ↓zC_V, ↓zC_I, ↓zC_J, zUp_at, zUp_ne, q_up_at, q_up_ne, w32_of, w64_of, q_le_T, q_le_F, q_lt_T, q_lt_F, q_eq_T, q_eq_F, true_or, or_true, or_false, false_or, false_and, and_false]
    rw [et, ea]
    rw [ed] at hia ⊢
    obtain ⟨μ', r, h', e0, ec⟩ := t_wait hs hi h6 hdl ht hB0 hB1 a4.1 hw (fun μ29 => some (.inr (some (zJ (w32 (μ29 1 6)))), μ29))
    simp (disch := omega) only [w32_of, q_eq_F, ↓reduceIte]
    rw [r]
    have e16 : μ' 1 6 = (q_wn m tm ex sum.toNat σ).1 90 := h'.1.1.2.2.2.2.2.2.1
    have hq' := hia.1.2.2.2.1.2.2.2.2.1
    refine ⟨μ', ?_, h', by rw [e0]; exact s4, by rw [e0]; exact s5, fun c hcc => (ec c hcc).trans (sc c hcc)⟩
    rw [e16, w32_of (by omega) (by omega)]
  by_cases k5 : kd = 5
  · subst k5
    have w := a2 (by omega)
    have et : q_th tm 5 who sum σ = 0 := by unfold q_th; simp (disch := omega) only [Int.add_zero, Int.mul_zero, Int.reduceMul, Int.reduceAdd, Int.mul_one, Int.tdiv_eq_ediv_of_nonneg, Int.tmod_eq_emod_of_nonneg, ↓reduceIte, ↓zLet_eq, ↓zRd_ok, ↓zWr_ok, ↓zC_V, ↓zC_I, ↓zC_J, zUp_at, zUp_ne, q_up_at, q_up_ne, w32_of, w64_of, q_le_T, q_le_F, q_lt_T, q_lt_F, q_eq_T, q_eq_F, true_or, or_true, or_false, false_or, false_and, and_false]
    have ed : q_do m tm ex 5 who sum ot σ = (q_fa who σ.1, σ.2) := by unfold q_do; simp (disch := omega) only [Int.add_zero, Int.mul_zero, Int.reduceMul, Int.reduceAdd, Int.mul_one, Int.tdiv_eq_ediv_of_nonneg, Int.tmod_eq_emod_of_nonneg, ↓reduceIte, ↓zLet_eq, ↓zRd_ok, ↓zWr_ok, ↓zC_V, ↓zC_I, ↓zC_J, zUp_at, zUp_ne, q_up_at, q_up_ne, w32_of, w64_of, q_le_T, q_le_F, q_lt_T, q_lt_F, q_eq_T, q_eq_F, true_or, or_true, or_false, false_or, false_and, and_false]
    have ea : q_an m tm ex 5 who sum ot σ = q_wt (q_fa who σ.1) who := by unfold q_an; simp (disch := omega) only [Int.add_zero, Int.mul_zero, Int.reduceMul, Int.reduceAdd, Int.mul_one, Int.tdiv_eq_ediv_of_nonneg, Int.tmod_eq_emod_of_nonneg, ↓reduceIte, ↓zLet_eq, ↓zRd_ok, ↓zWr_ok, ↓zC_V, ↓zC_I, ↓zC_J, zUp_at, zUp_ne, q_up_at, q_up_ne, w32_of, w64_of, q_le_T, q_le_F, q_lt_T, q_lt_F, q_eq_T, q_eq_F, true_or, or_true, or_false, false_or, false_and, and_false]
    rw [et, ea]
    rw [ed] at hia ⊢
    obtain ⟨ν, r, hr, fr⟩ := r_setFailed (i := who) hs.1.2 hi.1 h6 w.1 w.2
    have hwb := q_wt_bd (i := who) hia.1.1 w.1 w.2
    simp (disch := omega) only [w32_of, q_eq_F, ↓reduceIte, r, ↓zCm_I]
    refine ⟨_, ?_, hs.reg hr (fun k k0 k1 => ?_) (fun i i0 i1 => ?_) (fr 4 (by decide) (by decide)), by rw [zMg_out (by decide)]; exact s4, by rw [zMg_out (by decide)]; exact s5, fun c hcc => by rw [zMg_out (by simp; omega), sc c hcc]⟩
    · simp only [] at hwb
      rw [w32_of (by omega) (by omega)]
    · unfold q_fa
      rw [if_neg (by omega), if_neg (by omega)]
    · unfold q_fa
      rw [if_neg (by omega), if_neg (by omega)]
  by_cases k7 : kd = 7
  · subst k7
    have w := a2 (by omega)
    have o := a3 rfl
    have hv := q_can_move hc
    have et : q_th tm 7 who sum σ = 0 := by unfold q_th; simp (disch := omega) only [Int.add_zero, Int.mul_zero, Int.reduceMul, Int.reduceAdd, Int.mul_one, Int.tdiv_eq_ediv_of_nonneg, Int.tmod_eq_emod_of_nonneg, ↓reduceIte, ↓zLet_eq, ↓zRd_ok, ↓zWr_ok, ↓zC_V, ↓zC_I, ↓zC_J, zUp_at, zUp_ne, q_up_at, q_up_ne, w32_of, w64_of, q_le_T, q_le_F, q_lt_T, q_lt_F, q_eq_T, q_eq_F, true_or, or_true, or_false, false_or, false_and, and_false]
    have ed : q_do m tm ex 7 who sum ot σ = (q_mv who ot sum σ.1, σ.2) := by unfold q_do; simp (disch := omega) only [Int.add_zero, Int.mul_zero, Int.reduceMul, Int.reduceAdd, Int.mul_one, Int.tdiv_eq_ediv_of_nonneg, Int.tmod_eq_emod_of_nonneg, ↓reduceIte, ↓zLet_eq, ↓zRd_ok, ↓zWr_ok, ↓zC_V, ↓zC_I, ↓zC_J, zUp_at, zUp_ne, q_up_at, q_up_ne, w32_of, w64_of, q_le_T, q_le_F, q_lt_T, q_lt_F, q_eq_T, q_eq_F, true_or, or_true, or_false, false_or, false_and, and_false]
    have ea : q_an m tm ex 7 who sum ot σ = q_ov who sum σ.1 := by unfold q_an; simp (disch := omega) only [Int.add_zero, Int.mul_zero, Int.reduceMul, Int.reduceAdd, Int.mul_one, Int.tdiv_eq_ediv_of_nonneg, Int.tmod_eq_emod_of_nonneg, ↓reduceIte, ↓zLet_eq, ↓zRd_ok, ↓zWr_ok, ↓zC_V, ↓zC_I, ↓zC_J, zUp_at, zUp_ne, q_up_at, q_up_ne, w32_of, w64_of, q_le_T, q_le_F, q_lt_T, q_lt_F, q_eq_T, q_eq_F, true_or, or_true, or_false, false_or, false_and, and_false]
    have hq7 := hi.1 who.toNat (by omega)
    rw [Int.toNat_of_nonneg w.1] at hq7
    have hov := q_ov_in (sum := sum) hq7.2.1.1 hq7.2.1.2 a4.1 hv.1
    have eov : q_ov who sum σ.1 = σ.1 (5 * who + 1) * sum / σ.1 (5 * who) := rfl
    rw [← eov] at hov
    rw [et, ed, ea]
    obtain ⟨ν, r, hr, fr⟩ := r_handOver (i := who) (o := ot) (sum := sum) hs.1.2 hi.1 h6 w.1 w.2 o.1 o.2.1 (Ne.symm o.2.2) a4.1 a4.2
    simp (disch := omega) only [w32_of, q_eq_F, ↓reduceIte, r, ↓zCm_I]
    refine ⟨_, rfl, hs.reg hr (fun k k0 k1 => ?_) (fun i i0 i1 => ?_) (fr 4 (by decide) (by decide)), by rw [zMg_out (by decide)]; exact s4, by rw [zMg_out (by decide)]; exact s5, fun c hcc => by rw [zMg_out (by simp; omega), sc c hcc]⟩
    · unfold q_mv
      rw [if_neg (by omega), if_neg (by omega), if_neg (by omega), if_neg (by omega)]
    · unfold q_mv
      rw [if_neg (by omega), if_neg (by omega), if_neg (by omega), if_neg (by omega)]
  obtain rfl : kd = 6 := by omega
  have et : q_th tm 6 who sum σ = q_hl σ.1 + q_ou tm σ.1 := by unfold q_th; simp (disch := omega) only [Int.add_zero, Int.mul_zero, Int.reduceMul, Int.reduceAdd, Int.mul_one, Int.tdiv_eq_ediv_of_nonneg, Int.tmod_eq_emod_of_nonneg, ↓reduceIte, ↓zLet_eq, ↓zRd_ok, ↓zWr_ok, ↓zC_V, ↓zC_I, ↓zC_J, zUp_at, zUp_ne, q_up_at, q_up_ne, w32_of, w64_of, q_le_T, q_le_F, q_lt_T, q_lt_F, q_eq_T, q_eq_F, true_or, or_true, or_false, false_or, false_and, and_false]
  have ed : q_do m tm ex 6 who sum ot σ = q_end m tm ex σ := by unfold q_do; simp (disch := omega) only [Int.add_zero, Int.mul_zero, Int.reduceMul, Int.reduceAdd, Int.mul_one, Int.tdiv_eq_ediv_of_nonneg, Int.tmod_eq_emod_of_nonneg, ↓reduceIte, ↓zLet_eq, ↓zRd_ok, ↓zWr_ok, ↓zC_V, ↓zC_I, ↓zC_J, zUp_at, zUp_ne, q_up_at, q_up_ne, w32_of, w64_of, q_le_T, q_le_F, q_lt_T, q_lt_F, q_eq_T, q_eq_F, true_or, or_true, or_false, false_or, false_and, and_false]
  have ea : q_an m tm ex 6 who sum ot σ = q_hl σ.1 + q_ou tm σ.1 := by unfold q_an; simp (disch := omega) only [Int.add_zero, Int.mul_zero, Int.reduceMul, Int.reduceAdd, Int.mul_one, Int.tdiv_eq_ediv_of_nonneg, Int.tmod_eq_emod_of_nonneg, ↓reduceIte, ↓zLet_eq, ↓zRd_ok, ↓zWr_ok, ↓zC_V, ↓zC_I, ↓zC_J, zUp_at, zUp_ne, q_up_at, q_up_ne, w32_of, w64_of, q_le_T, q_le_F, q_lt_T, q_lt_F, q_eq_T, q_eq_F, true_or, or_true, or_false, false_or, false_and, and_false]
  have hcw := hi.cw ht
  rw [et, ed, ea]
  obtain ⟨ν, r, hb⟩ := b_settle hs.1.1 hi hB0 (by omega) ht
  have h1 : s_T m dl tm ex (q_en tm σ.1, σ.2) (zMg plB μ2 ν) := hs.books h6 hb (fun k k0 k1 => q_en_at (by omega))
  have i1 : q_inv m dl (B + 1) (q_en tm σ.1, σ.2).1 := hi.en h6 ht hB0 (by omega)
  obtain ⟨μ', r2, h2, e0, ec⟩ := t_handOut (g := q_hl σ.1 + q_ou tm σ.1) (d := -1) (h1.f0 (k := 4) (v := q_hl σ.1 + q_ou tm σ.1) (by decide)) i1 hf hm (Or.inl rfl) (by rw [zUp_at, q_up_at]) (by omega) (by omega)
  simp (disch := omega) only [w32_of, q_eq_F, ↓reduceIte, r, ↓zCm_J, ↓zLet_eq]
  rw [r2]
  simp only [↓zC_V]
  refine ⟨μ', ?_, h2, by rw [e0, zUp_at, q_up_at], ?_, fun c hcc => ?_⟩
  · rw [e0, zUp_at, q_up_at]
  · rw [e0, zUp_at, q_up_ne (by decide), zMg_out (by decide)]
    exact s5
  · rw [ec c hcc, zUp_ne (by omega), zMg_out (by simp; omega), sc c hcc]
end ST
