section TI
variable {m dl : Nat} {B d sum : Int} {tm ex pr : Int → Int} {σ : QS} {μ : ZMem}
theorem u_takeIn (h : s_U m dl tm ex σ μ) (hw : ∀ i : Nat, i < m → μ 13 i = q_wp ex σ.1 d i) (hi : q_inv m dl B σ.1) (h6 : m ≤ 6) (hs0 : 0 ≤ sum) (hs1 : sum ≤ 60000) : ∃ μ', F_State_takeIn_w2 sum μ = some (.inr none, μ') ∧ s_U m dl tm ex (q_pay m ex d sum σ) μ' ∧ μ' 0 = μ 0 ∧ (∀ c, 19 ≤ c → μ' c = μ c) := by
  obtain ⟨⟨hb, hr⟩, h2⟩ := h
  obtain ⟨ν, r1, f1, g1⟩ := r_split (ν := zVw plR μ) (m := m) (w := q_wp ex σ.1 d) (sum := sum) hr.2.2.1 h6 (fun i hii => ⟨hw i hii, (q_wp_nn hi.1 i hii).1, by have h1 := (q_wp_nn (ex := ex) (d := d) hi.1 i hii).2; have h2 := hi.1 i hii; omega⟩) hs0 (by omega)
  have eq : q_pay m ex d sum σ = (q_py m (q_shr m (q_wp ex σ.1 d) sum) σ.1, q_tr m (σ.1 90) (q_shr m (q_wp ex σ.1 d) sum) σ.2.1, σ.2.2) := rfl
  rw [eq]
  generalize q_shr m (q_wp ex σ.1 d) sum = pt at *
  unfold F_State_takeIn_w2
  rw [r1, zCm_V]
  have fr : ∀ c, c ≠ 14 → c ≠ 15 → zMg plR μ ν c = μ c := fun c c14 c15 => zMg_fr (bad := [7, 8]) (fun j hj => f1 j (fun e => hj (by simp [e])) (fun e => hj (by simp [e]))) (fun hm => by
    have : c = 14 ∨ c = 15 := by simpa [zRho] using hm
    exact this.elim c14 c15)
  have g14 : ∀ i : Nat, i < m → zMg plR μ ν 14 i = pt i := fun i hii => g1 i hii
  generalize zMg plR μ ν = μ1 at *
  obtain ⟨⟨v, ν1⟩, e, j, rfl, hj, hf, r7⟩ := q_loop (L := fun n (a : Int × ZMem) => L_State_takeIn_w2_10 (fun μ11 => some (.inr none, μ11)) n a.1 a.2) (P := fun k a => ∃ j : Nat, a.1 = j ∧ j + k = m ∧ (∀ c, c ≠ 9 → c ≠ 10 → a.2 c = μ1 c) ∧ r_rg m ex (q_py j pt σ.1) (zVw plR a.2)) (fun n k a hh => by
      obtain ⟨v, ν1⟩ := a
      obtain ⟨j, rfl, hj, hf, r7⟩ := hh
      simp only [] at hf r7 ⊢
      have e78 : ν1 7 8 = m := by rw [hf 7 (by decide) (by decide), fr 7 (by decide) (by decide)]; exact hr.2.2.1
      have e02 : ν1 0 2 = 0 := by rw [hf 0 (by decide) (by decide), fr 0 (by decide) (by decide)]; exact h2
      have e14 : ν1 14 j = pt j := by rw [hf 14 (by decide) (by decide)]; exact g14 j (by omega)
      refine ⟨(j + 1, zUp (zUp ν1 9 j (ν1 9 j - pt j)) 10 j (ν1 10 j + pt j)), ?_, j + 1, rfl, by omega, ?_, ?_⟩
      · simp (disch := omega) only [L_State_takeIn_w2_10, J_State_takeIn_w2_87, Int.add_zero, Int.mul_zero, Int.reduceMul, Int.reduceAdd, Int.mul_one, Int.tdiv_eq_ediv_of_nonneg, Int.tmod_eq_emod_of_nonneg, ↓reduceIte, ↓zLet_eq, ↓zRd_ok, ↓zWr_ok, ↓zC_V, ↓zC_I, ↓zC_J, zUp_at, zUp_ne, q_up_at, q_up_ne, w32_of, w64_of, q_le_T, q_le_F, q_lt_T, q_lt_F, q_eq_T, q_eq_F, true_or, or_true, or_false, false_or, false_and, and_false, e14, e02]
      · intro c c9 c10
        simp only []
        rw [zUp_ne c10, zUp_ne c9, hf c c9 c10]
      · simp only []
        refine r7.pay1 (by omega) h6 (by rw [zUp_ne (by decide), zUp_ne (by decide)]) (by rw [zUp_ne (by decide), zUp_ne (by decide)]) (by rw [zUp_ne (by decide), zUp_ne (by decide)]) (by rw [zUp_ne (by decide), zUp_at]) (by rw [zUp_at, zUp_ne (by decide)])) m zN (0, μ1) ⟨0, rfl, by omega, fun _ _ _ => rfl, by
        simp only []
        rw [q_py_zero]
        exact hr.cong (fr 7 (by decide) (by decide)) (fr 8 (by decide) (by decide)) (fr 9 (by decide) (by decide)) (fr 10 (by decide) (by decide)) (fr 12 (by decide) (by decide))⟩ (Nat.le_of_lt (zN_gt (by omega)))
  simp only [] at e hf r7
  obtain rfl : j = m := by omega
  have fr2 : ∀ c, c ≠ 9 → c ≠ 10 → c ≠ 14 → c ≠ 15 → ν1 c = μ c := fun c c9 c10 c14 c15 => by rw [hf c c9 c10, fr c c14 c15]
  refine ⟨ν1, ?_, ⟨⟨?_, r7⟩, ?_⟩, fr2 0 (by decide) (by decide) (by decide) (by decide), fun c hc => fr2 c (by omega) (by omega) (by omega) (by omega)⟩
  · rw [e]
    obtain ⟨n, hn⟩ : ∃ n, zN - j = n + 1 := ⟨zN - j - 1, by have := zN_gt (m := j) (by omega); omega⟩
    rw [hn]
    have e78 : ν1 7 8 = j := r7.2.2.1
    simp (disch := omega) only [L_State_takeIn_w2_10, Int.add_zero, Int.mul_zero, Int.reduceMul, Int.reduceAdd, Int.mul_one, Int.tdiv_eq_ediv_of_nonneg, Int.tmod_eq_emod_of_nonneg, ↓reduceIte, ↓zLet_eq, ↓zRd_ok, ↓zWr_ok, ↓zC_V, ↓zC_I, ↓zC_J, zUp_at, zUp_ne, q_up_at, q_up_ne, w32_of, w64_of, q_le_T, q_le_F, q_lt_T, q_lt_F, q_eq_T, q_eq_F, true_or, or_true, or_false, false_or, false_and, and_false]
  · exact (hb.cong (fr2 1 (by decide) (by decide) (by decide) (by decide)) (fr2 2 (by decide) (by decide) (by decide) (by decide)) (fr2 3 (by decide) (by decide) (by decide) (by decide)) (fr2 4 (by decide) (by decide) (by decide) (by decide)) (fr2 5 (by decide) (by decide) (by decide) (by decide))).congr (fun k _ _ => q_py_hi (by omega))
  · rw [fr2 0 (by decide) (by decide) (by decide) (by decide)]; exact h2
/-- the register behind a sum that came to all -/
theorem r_rg.get {g : Int} {s pt : Int → Int} {μ μ' : ZMem} (h : r_rg m ex s (zVw plR μ)) (h6 : m ≤ 6) (hs : q_sm pt m = g) (e8 : μ' 8 = μ 8) (e9 : μ' 9 = μ 9) (e10 : μ' 10 = μ 10) (e12 : μ' 12 = μ 12) (e7 : μ' 7 = q_up (μ 7) 10 (μ 7 10 + g)) : r_rg m ex (q_gt m pt s) (zVw plR μ') := by
  refine r_rg.mk (fun i i0 i1 => ?_) (fun k k0 k1 => ?_) ?_ ?_ (fun i i0 i1 => ?_) ?_
  · rw [e8, e9, e10, q_gt_ne (by omega), q_gt_ne (by omega), q_gt_ne (by omega)]
    exact h.1 i i0 i1
  · rw [e12]
    exact h.2.1 k k0 k1
  · rw [e7, q_up_ne (by decide)]
    exact h.2.2.1
  · rw [e7, q_up_ne (by decide)]
    exact h.2.2.2.1
  · rw [e7, q_up_ne (by decide), q_gt_ne (by omega)]
    exact h.2.2.2.2.1 i i0 i1
  · rw [e7, q_up_at, q_gt_sum, hs]
    have := h.2.2.2.2.2
    exact congrArg (· + g) this
theorem u_handOut {g : Int} (h : s_U m dl tm ex σ μ) (hi : q_inv m dl B σ.1) (hf : q_fu m dl tm ex pr) (hm : 0 < m) (hd : d = -1 ∨ (0 ≤ d ∧ d < dl)) (hg : μ 0 4 = g) (hg0 : 0 ≤ g) : ∃ μ', F_State_handOut_w2 d μ = some (.inr none, μ') ∧ s_U m dl tm ex (q_get m ex d g σ) μ' ∧ μ' 0 = μ 0 ∧ (∀ c, 19 ≤ c → μ' c = μ c) := by
  obtain ⟨⟨hb, hr⟩, h2⟩ := h
  have hA := q_wg_pos hf hi.1 hm hd
  unfold F_State_handOut_w2
  simp (disch := omega) only [Int.add_zero, Int.mul_zero, Int.reduceMul, Int.reduceAdd, Int.mul_one, Int.tdiv_eq_ediv_of_nonneg, Int.tmod_eq_emod_of_nonneg, ↓reduceIte, ↓zLet_eq, ↓zRd_ok, ↓zWr_ok, ↓zC_V, ↓zC_I, ↓zC_J, zUp_at, zUp_ne, q_up_at, q_up_ne, w32_of, w64_of, q_le_T, q_le_F, q_lt_T, q_lt_F, q_eq_T, q_eq_F, true_or, or_true, or_false, false_or, false_and, and_false, hg]
  refine ⟨_, rfl, ⟨⟨?_, ?_⟩, by rw [zUp_ne (by decide)]; exact h2⟩, zUp_ne (by decide), fun c hc => zUp_ne (by omega)⟩
  · refine (hb.vw (μ' := zUp μ 7 10 (μ 7 10 + g)) (zUp_ne (by decide)) (zUp_ne (by decide)) (zUp_ne (by decide)) (zUp_ne (by decide)) (zUp_ne (by decide))).congr (fun k _ _ => ?_)
    exact q_gt_ne (by have := hf.1; omega)
  · exact hr.get (pt := q_shr m (q_wg ex σ.1 d) g) hf.1 (q_shr_sum hA) (zUp_ne (by decide)) (zUp_ne (by decide)) (zUp_ne (by decide)) (zUp_ne (by decide)) (zUp_at _ _ _ _)
theorem t_handOut {g : Int} (h : s_T m dl tm ex σ μ) (hi : q_inv m dl B σ.1) (hf : q_fu m dl tm ex pr) (hm : 0 < m) (hd : d = -1 ∨ (0 ≤ d ∧ d < dl)) (hg : μ 0 4 = g) (hg0 : 0 ≤ g) (hg1 : g ≤ 1000000000000) : ∃ μ', F_State_handOut d μ = some (.inr none, μ') ∧ s_T m dl tm ex (q_get m ex d g σ) μ' ∧ μ' 0 = μ 0 ∧ (∀ c, 19 ≤ c → μ' c = μ c) := by
  obtain ⟨⟨hb, hr⟩, h2, hgot, hn, hN, hF⟩ := h
  have h6 := hf.1
  have hdl := hf.2.1
  have hq := hi.2.2.2.1.2.2.2.2.1
  have e16 : μ 1 6 = σ.1 90 := hb.2.2.2.2.2.2.1
  have hA := q_wg_pos hf hi.1 hm hd
  have hsum : q_sm (q_shr m (q_wg ex σ.1 d) g) m = g := q_shr_sum hA
  have eq : q_get m ex d g σ = (q_gt m (q_shr m (q_wg ex σ.1 d) g) σ.1, σ.2.1, q_tr m (σ.1 90) (q_shr m (q_wg ex σ.1 d) g) σ.2.2.1, σ.2.2.2) := rfl
  rw [eq]
  unfold F_State_handOut
  by_cases gz : g = 0
  · have hz : ∀ i : Nat, i < m → q_shr m (q_wg ex σ.1 d) g i = 0 := fun i hii => by rw [gz]; exact q_shr_0 (fun i hii => (q_wg_nn hi.1 i hii).1) i hii
    rw [q_gt_0 hz, q_tr_0f hz]
    simp (disch := omega) only [Int.add_zero, Int.mul_zero, Int.reduceMul, Int.reduceAdd, Int.mul_one, Int.tdiv_eq_ediv_of_nonneg, Int.tmod_eq_emod_of_nonneg, ↓reduceIte, ↓zLet_eq, ↓zRd_ok, ↓zWr_ok, ↓zC_V, ↓zC_I, ↓zC_J, zUp_at, zUp_ne, q_up_at, q_up_ne, w32_of, w64_of, q_le_T, q_le_F, q_lt_T, q_lt_F, q_eq_T, q_eq_F, true_or, or_true, or_false, false_or, false_and, and_false, hg]
    have e7 : zUp μ 7 10 (μ 7 10 + g) = μ := by
      funext c i
      unfold zUp
      split
      · rename_i hc
        rw [hc.1, hc.2, gz]
        omega
      · rfl
    rw [e7]
    exact ⟨μ, rfl, ⟨⟨hb, hr⟩, h2, hgot, hn, hN, hF⟩, rfl, fun _ _ => rfl⟩
  · have hr1 : r_rg m ex σ.1 (q_up (zVw plR μ 0) 10 (μ 7 10) |> fun _ => zVw plR μ) := hr
    simp (disch := omega) only [Int.add_zero, Int.mul_zero, Int.reduceMul, Int.reduceAdd, Int.mul_one, Int.tdiv_eq_ediv_of_nonneg, Int.tmod_eq_emod_of_nonneg, ↓reduceIte, ↓zLet_eq, ↓zRd_ok, ↓zWr_ok, ↓zC_V, ↓zC_I, ↓zC_J, zUp_at, zUp_ne, q_up_at, q_up_ne, w32_of, w64_of, q_le_T, q_le_F, q_lt_T, q_lt_F, q_eq_T, q_eq_F, true_or, or_true, or_false, false_or, false_and, and_false, hg]
    have hrw : F_Register_weighFor d (zVw plR (zUp μ 7 10 (μ 7 10 + g))) = some (.inr none, q_fi (zVw plR (zUp μ 7 10 (μ 7 10 + g))) 6 (q_wg ex σ.1 d) m) := by
      have hx : r_rg m ex (q_gt m (q_shr m (q_wg ex σ.1 d) g) σ.1) (zVw plR (zUp μ 7 10 (μ 7 10 + g))) := hr.get h6 hsum (zUp_ne (by decide)) (zUp_ne (by decide)) (zUp_ne (by decide)) (zUp_ne (by decide)) (zUp_at _ _ _ _)
      have hbd : ∀ i : Nat, i < m → 0 ≤ q_shr m (q_wg ex σ.1 d) g i ∧ q_shr m (q_wg ex σ.1 d) g i ≤ g := q_shr_bd hg0 (fun i hii => (q_wg_nn hi.1 i hii).1)
      have hii : q_iI m (B + 1000) (q_gt m (q_shr m (q_wg ex σ.1 d) g) σ.1) := fun i hi1 => by
        have h1 := hi.1 i hi1
        have h2 := hbd i hi1
        rw [q_gt_ne (by omega), q_gt_ne (by omega), q_gt_ne (by omega), q_gt_3 (by omega) (by omega), q_gt_ne (by omega)]
        omega
      rw [r_weighFor hx hii h6 (by omega) (by omega)]
      congr 2
      funext c i
      unfold q_fi
      split
      · rename_i hc
        have hw : q_wg ex (q_gt m (q_shr m (q_wg ex σ.1 d) g) σ.1) d i = q_wg ex σ.1 d i := q_wg_congr (q_gt_ne (by omega)) (q_gt_ne (by omega))
        exact hw
      · rfl
    rw [hrw, zCm_V]
    have fr1 : ∀ c, c ≠ 13 → zMg plR (zUp μ 7 10 (μ 7 10 + g)) (q_fi (zVw plR (zUp μ 7 10 (μ 7 10 + g))) 6 (q_wg ex σ.1 d) m) c = zUp μ 7 10 (μ 7 10 + g) c := fun c c13 => zMg_fr (bad := [6]) (fun j hj => q_fi_ne (fun e => hj (by simp [e]))) (fun hm => by
      have : c = 13 := by simpa [zRho] using hm
      exact c13 this)
    have g13 : ∀ i : Nat, i < m → zMg plR (zUp μ 7 10 (μ 7 10 + g)) (q_fi (zVw plR (zUp μ 7 10 (μ 7 10 + g))) 6 (q_wg ex σ.1 d) m) 13 i = q_wg ex σ.1 d i := fun i hii => by
      rw [zMg_in (j := 6) rfl]
      exact q_fi_in (by omega) (by omega)
    generalize zMg plR (zUp μ 7 10 (μ 7 10 + g)) (q_fi (zVw plR (zUp μ 7 10 (μ 7 10 + g))) 6 (q_wg ex σ.1 d) m) = μ1 at *
    have e04 : μ1 0 4 = g := by rw [fr1 0 (by decide), zUp_ne (by decide)]; exact hg
    have e78 : μ1 7 8 = m := by rw [fr1 7 (by decide), zUp_at, q_up_ne (by decide)]; exact hr.2.2.1
    rw [e04]
    obtain ⟨ν, r1, f1, g1⟩ := r_split (ν := zVw plR μ1) (m := m) (w := q_wg ex σ.1 d) (sum := g) e78 h6 (fun i hii => ⟨g13 i hii, (q_wg_nn hi.1 i hii)⟩) hg0 (by omega)
    have hbd : ∀ i : Nat, i < m → 0 ≤ q_shr m (q_wg ex σ.1 d) g i ∧ q_shr m (q_wg ex σ.1 d) g i ≤ g := q_shr_bd hg0 (fun i hii => (q_wg_nn hi.1 i hii).1)
    rw [r1, zCm_V]
    generalize q_shr m (q_wg ex σ.1 d) g = pt at *
    have fr2 : ∀ c, c ≠ 14 → c ≠ 15 → zMg plR μ1 ν c = μ1 c := fun c c14 c15 => zMg_fr (bad := [7, 8]) (fun j hj => f1 j (fun e => hj (by simp [e])) (fun e => hj (by simp [e]))) (fun hm => by
      have : c = 14 ∨ c = 15 := by simpa [zRho] using hm
      exact this.elim c14 c15)
    have g14 : ∀ i : Nat, i < m → zMg plR μ1 ν 14 i = pt i := fun i hii => g1 i hii
    generalize zMg plR μ1 ν = μ2 at *
    have fr3 : ∀ c, c ≠ 13 → c ≠ 14 → c ≠ 15 → c ≠ 7 → μ2 c = μ c := fun c c13 c14 c15 c7 => by rw [fr2 c c14 c15, fr1 c c13, zUp_ne c7]
    have e7 : μ2 7 = q_up (μ 7) 10 (μ 7 10 + g) := by rw [fr2 7 (by decide) (by decide), fr1 7 (by decide), zUp_at]
    have e278 : μ2 7 8 = m := by rw [fr2 7 (by decide) (by decide)]; exact e78
    obtain ⟨⟨v, ν1⟩, e, j, rfl, hj, hf', r11, r17, r17N⟩ := q_loop (L := fun n (a : Int × ZMem) => L_State_handOut_54 (fun μ13 => some (.inr none, μ13)) n a.1 a.2) (P := fun k a => ∃ j : Nat, a.1 = j ∧ j + k = m ∧ (∀ c, c ≠ 11 → c ≠ 17 → a.2 c = μ2 c) ∧ (∀ i : Int, 0 ≤ i → i < m → a.2 11 i = q_gt j pt σ.1 (5 * i + 3)) ∧ (∀ i q : Int, 0 ≤ i → i < m → 0 ≤ q → q < 201 → a.2 17 (i * 201 + q) = q_tr j (σ.1 90) pt σ.2.2.1 (201 * i + q) - σ.2.1 (201 * i + q)) ∧ (∀ q : Int, 0 ≤ q → q < 201 → a.2 17 (1206 + q) = q_sm (fun i => q_tr j (σ.1 90) pt σ.2.2.1 (201 * i + q) - σ.2.1 (201 * i + q)) m)) (fun n k a hh => by
        obtain ⟨v, ν1⟩ := a
        obtain ⟨j, rfl, hj, hf', r11, r17, r17N⟩ := hh
        simp only [] at hf' r11 r17 r17N ⊢
        have e78' : ν1 7 8 = m := by rw [hf' 7 (by decide) (by decide)]; exact e278
        have e16' : ν1 1 6 = σ.1 90 := by rw [hf' 1 (by decide) (by decide), fr3 1 (by decide) (by decide) (by decide) (by decide)]; exact e16
        have e14 : ν1 14 j = pt j := by rw [hf' 14 (by decide) (by decide)]; exact g14 j (by omega)
        refine ⟨(j + 1, zMg [16, 17, 18] (zUp ν1 11 j (ν1 11 j + pt j)) (zUp (zUp (zVw [16, 17, 18] (zUp ν1 11 j (ν1 11 j + pt j))) 1 (j * 201 + σ.1 90) (ν1 17 (j * 201 + σ.1 90) + pt j)) 1 (1206 + σ.1 90) (ν1 17 (1206 + σ.1 90) + pt j))), ?_, j + 1, rfl, by omega, ?_, ?_, ?_, ?_⟩
        · have e17 : ∀ k, zVw [16, 17, 18] (zUp ν1 11 j (ν1 11 j + pt j)) 1 k = ν1 17 k := fun k => rfl
          simp (disch := omega) only [L_State_handOut_54, Int.add_zero, Int.mul_zero, Int.reduceMul, Int.reduceAdd, Int.mul_one, Int.tdiv_eq_ediv_of_nonneg, Int.tmod_eq_emod_of_nonneg, ↓reduceIte, ↓zLet_eq, ↓zRd_ok, ↓zWr_ok, ↓zC_V, ↓zC_I, ↓zC_J, zUp_at, zUp_ne, q_up_at, q_up_ne, w32_of, w64_of, q_le_T, q_le_F, q_lt_T, q_lt_F, q_eq_T, q_eq_F, true_or, or_true, or_false, false_or, false_and, and_false, e14, e16', f_Trace_add, ↓zCm_V, e17]
        · intro c c11 c17
          simp only []
          by_cases cin : c = 16 ∨ c = 18
          · rcases cin with rfl | rfl
            · exact hf' 16 c11 c17
            · exact hf' 18 c11 c17
          · rw [zMg_out (by simp; omega), zUp_ne c11, hf' c c11 c17]
        · intro i i0 i1
          simp only []
          rw [zMg_out (by decide), zUp_at, ← q_gt_step]
          by_cases ei : i = j
          · rw [ei, q_up_at, q_up_at, r11 j (by omega) (by omega), q_gt_ne (by omega)]
          · rw [q_up_ne ei, q_up_ne (by omega)]
            exact r11 i i0 i1
        · intro i q i0 i1 q0 q1
          simp only []
          rw [zMg_in (j := 1) rfl]
          simp (disch := omega) only [zUp_at]
          rw [q_up_ne (by omega)]
          by_cases ek : i = j ∧ q = σ.1 90
          · obtain ⟨ei, eq⟩ := ek
            rw [ei, eq, q_up_at, r17 j _ (by omega) (by omega) (by omega) (by omega), q_tr_ev (by omega) (by omega) (by omega), q_tr_ev (by omega) (by omega) (by omega), if_neg (by omega), if_pos (by omega)]
            omega
          · rw [q_up_ne (by omega)]
            refine (r17 i q i0 i1 q0 q1).trans ?_
            rw [q_tr_ev i0 q0 q1, q_tr_ev i0 q0 q1]
            by_cases h3 : i < j ∧ q = σ.1 90
            · rw [if_pos h3, if_pos (by omega)]
            · rw [if_neg h3, if_neg (by omega)]
        · intro q q0 q1
          simp only []
          rw [zMg_in (j := 1) rfl, q_tr_sumP (by omega) q0 q1]
          simp (disch := omega) only [zUp_at]
          by_cases eq : q = σ.1 90
          · rw [if_pos eq, eq, q_up_at, r17N _ (by omega) (by omega)]
          · rw [if_neg eq, q_up_ne (by omega), q_up_ne (by omega)]
            exact (r17N q q0 q1).trans (by omega)) m zN (0, μ2) ⟨0, rfl, by omega, fun _ _ _ => rfl, fun i i0 i1 => by simp only []; rw [q_gt_zero, fr3 11 (by decide) (by decide) (by decide) (by decide)]; exact hgot i i0 i1, fun i q i0 i1 q0 q1 => by simp only []; rw [q_tr_zero, fr3 17 (by decide) (by decide) (by decide) (by decide)]; exact hn i q i0 i1 q0 q1, fun q q0 q1 => by simp only []; rw [q_tr_zero, fr3 17 (by decide) (by decide) (by decide) (by decide)]; exact hN q q0 q1⟩ (Nat.le_of_lt (zN_gt (by omega)))
    simp only [] at e hf' r11 r17 r17N
    obtain rfl : j = m := by omega
    have fr4 : ∀ c, c ≠ 11 → c ≠ 17 → c ≠ 13 → c ≠ 14 → c ≠ 15 → c ≠ 7 → ν1 c = μ c := fun c c11 c17 c13 c14 c15 c7 => by rw [hf' c c11 c17, fr3 c c13 c14 c15 c7]
    refine ⟨ν1, ?_, ⟨⟨?_, ?_⟩, ?_, r11, r17, r17N, fun q q0 q1 => ?_⟩, fr4 0 (by decide) (by decide) (by decide) (by decide) (by decide) (by decide), fun c hc => fr4 c (by omega) (by omega) (by omega) (by omega) (by omega) (by omega)⟩
    · rw [e]
      obtain ⟨n, hn⟩ : ∃ n, zN - j = n + 1 := ⟨zN - j - 1, by have := zN_gt (m := j) (by omega); omega⟩
      rw [hn]
      have e78' : ν1 7 8 = j := by rw [hf' 7 (by decide) (by decide)]; exact e278
      simp (disch := omega) only [L_State_handOut_54, Int.add_zero, Int.mul_zero, Int.reduceMul, Int.reduceAdd, Int.mul_one, Int.tdiv_eq_ediv_of_nonneg, Int.tmod_eq_emod_of_nonneg, ↓reduceIte, ↓zLet_eq, ↓zRd_ok, ↓zWr_ok, ↓zC_V, ↓zC_I, ↓zC_J, zUp_at, zUp_ne, q_up_at, q_up_ne, w32_of, w64_of, q_le_T, q_le_F, q_lt_T, q_lt_F, q_eq_T, q_eq_F, true_or, or_true, or_false, false_or, false_and, and_false]
    · exact (hb.cong (fr4 1 (by decide) (by decide) (by decide) (by decide) (by decide) (by decide)) (fr4 2 (by decide) (by decide) (by decide) (by decide) (by decide) (by decide)) (fr4 3 (by decide) (by decide) (by decide) (by decide) (by decide) (by decide)) (fr4 4 (by decide) (by decide) (by decide) (by decide) (by decide) (by decide)) (fr4 5 (by decide) (by decide) (by decide) (by decide) (by decide) (by decide))).congr (fun k _ _ => q_gt_ne (by omega))
    · exact hr.get h6 hsum (fr4 8 (by decide) (by decide) (by decide) (by decide) (by decide) (by decide)) (fr4 9 (by decide) (by decide) (by decide) (by decide) (by decide) (by decide)) (fr4 10 (by decide) (by decide) (by decide) (by decide) (by decide) (by decide)) (fr4 12 (by decide) (by decide) (by decide) (by decide) (by decide) (by decide)) (by rw [hf' 7 (by decide) (by decide)]; exact e7)
    · rw [fr4 0 (by decide) (by decide) (by decide) (by decide) (by decide) (by decide)]; exact h2
    · rw [fr4 18 (by decide) (by decide) (by decide) (by decide) (by decide) (by decide)]; exact hF q q0 q1
end TI
