/-! ===== the class's state (traced) follows the journal, opens ===== -/
section SF
variable {m dl : Nat} {B : Int} {tm ex pr J : Int → Int} {σ : QS} {μ : ZMem}
theorem t_follow {a : Nat} {k : Nat} (h : s_T m dl tm ex σ μ) (hi : q_inv m dl B σ.1) (hf : q_fu m dl tm ex pr) (hB0 : 0 ≤ B) (hB1 : B + 2 * (200 - σ.1 90) ≤ 760) (hJ : j_rw J a (μ 20)) (hk : k < a) (ha60 : a ≤ 60) (ha : q_ja m dl J k) : ∃ μ', F_State_follow k μ = some (.inr (some (zI (q_jc m dl ex J k σ.1))), μ') ∧ s_T m dl tm ex (if q_jc m dl ex J k σ.1 = 1 then q_jd m tm ex J k σ else σ) μ' ∧ (∀ c, 19 ≤ c → μ' c = μ c) := by
  obtain ⟨r0, r1, r2, r3, r4⟩ := hJ k hk
  have h' : s_T m dl tm ex σ (zVw plS μ) := h
  have ec := (s_canBe_w h'.1 hi hf.1 hf.2.1 ha).1
  have ejc : q_can m dl ex (J (5 * k)) (J (5 * k + 1)) (J (5 * k + 2)) (J (5 * k + 4)) σ.1 = q_jc m dl ex J k σ.1 := rfl
  rw [ejc] at ec
  unfold F_State_follow
  simp (disch := omega) only [↓zLet_eq, ↓zRd_ok, Int.add_zero, r0, r1, r2, r4, ec, ↓zCm_I, zMg_vw]
  rcases q_can_01 (m := m) (dl := dl) (ex := ex) (kd := J (5 * k)) (who := J (5 * k + 1)) (sum := J (5 * k + 2)) (ot := J (5 * k + 4)) (s := σ.1) with hc | hc
  · rw [ejc] at hc
    rw [hc]
    simp (disch := omega) only [Int.add_zero, Int.mul_zero, Int.reduceMul, Int.reduceAdd, Int.mul_one, Int.tdiv_eq_ediv_of_nonneg, Int.tmod_eq_emod_of_nonneg, ↓reduceIte, ↓zLet_eq, ↓zRd_ok, ↓zWr_ok, ↓zC_V, ↓zC_I, ↓zC_J, zUp_at, zUp_ne, q_up_at, q_up_ne, w32_of, w64_of, q_le_T, q_le_F, q_lt_T, q_lt_F, q_eq_T, q_eq_F, true_or, or_true, or_false, false_or, false_and, and_false]
    exact ⟨μ, rfl, h, fun _ _ => rfl⟩
  · have hm : 0 < m := by
      rcases Nat.eq_zero_or_pos m with h0 | h0
      · unfold q_can at hc
        rw [if_pos h0] at hc
        exact absurd hc (by decide)
      · exact h0
    obtain ⟨ν, r, hs, e4, e5, ecc⟩ := t_perform h' hi hf hm hB0 hB1 ha hc
    rw [ejc] at hc
    rw [hc]
    simp (disch := omega) only [w32_of, q_eq_F, ↓reduceIte, r, ↓zCm_J, true_or, or_true]
    refine ⟨_, rfl, hs, fun c hcc => zMg_out ?_⟩
    simp
    omega
theorem t_open (h02 : μ 0 2 = 1) (h6 : m ≤ 6) (ht : ∀ k, 0 ≤ k → k < 7 → μ 20 k = tm k) (hp : ∀ i : Int, 0 ≤ i → i < m → μ 21 i = pr i) (he : ∀ d, 0 ≤ d → d < 6 → μ 22 d = ex d) (hm : μ 19 3 = m) (hd : μ 19 4 = dl) : ∃ μ', F_State_open μ = some (.inr none, μ') ∧ s_T m dl tm ex (q_0 m pr) μ' ∧ (∀ c, 19 ≤ c → μ' c = μ c) := by
  obtain ⟨ν1, r1, hb1, f1⟩ := b_open (m := m) (pr := pr) (μ := zVw plBo μ) (dl := dl) (tm := tm) h6 ht hd
  unfold F_State_open
  rw [r1, zCm_V]
  have fr1 : ∀ c, 7 ≤ c → zMg plBo μ ν1 c = μ c := fun c hc => by
    by_cases hin : c ∈ plBo
    · have : c = 19 ∨ c = 20 ∨ c = 21 ∨ c = 22 := by
        simp at hin
        omega
      rcases this with rfl | rfl | rfl | rfl
      · exact f1 6 (by decide)
      · exact f1 7 (by decide)
      · exact f1 8 (by decide)
      · exact f1 9 (by decide)
    · exact zMg_out hin
  have b1 : b_bk dl tm (q_s00 m pr) (zVw plB (zMg plBo μ ν1)) := hb1
  have g0 : zMg plBo μ ν1 0 = μ 0 := zMg_out (by decide)
  generalize zMg plBo μ ν1 = μ1 at *
  obtain ⟨ν2, r2, hr2, hg2, f2⟩ := r_open (m := m) (ex := ex) (pr := pr) (ν := zVw plRo μ1) h6 (fun i i0 i1 => (congrFun (fr1 21 (by decide)) i).trans (hp i i0 i1)) (fun d d0 d1 => (congrFun (fr1 22 (by decide)) d).trans (he d d0 d1)) ((congrFun (fr1 19 (by decide)) 3).trans hm)
  rw [r2, zCm_V]
  have fr2 : ∀ c, (c < 7 ∨ 16 ≤ c) → zMg plRo μ1 ν2 c = μ1 c := fun c hc => by
    by_cases hin : c ∈ plRo
    · have : c = 19 ∨ c = 20 ∨ c = 21 ∨ c = 22 := by
        simp at hin
        omega
      rcases this with rfl | rfl | rfl | rfl
      · exact f2 9 (by decide)
      · exact f2 10 (by decide)
      · exact f2 11 (by decide)
      · exact f2 12 (by decide)
    · exact zMg_out hin
  have b2 : b_bk dl tm (q_s00 m pr) (zVw plB (zMg plRo μ1 ν2)) := b1
  have c2 : r_rg m ex (q_s00 m pr) (zVw plR (zMg plRo μ1 ν2)) := hr2
  have g2 : ∀ i : Int, 0 ≤ i → i < 6 → zMg plRo μ1 ν2 11 i = 0 := hg2
  generalize zMg plRo μ1 ν2 = μ2 at *
  rw [f_Trace_clear, zCm_V]
  refine ⟨_, rfl, ⟨⟨b2, c2⟩, ?_, fun i i0 i1 => ?_, fun i q i0 i1 q0 q1 => ?_, fun q q0 q1 => ?_, fun q q0 q1 => ?_⟩, fun c hc => ?_⟩
  · rw [zMg_out (by decide), fr2 0 (by decide), g0]
    exact h02
  · rw [zMg_out (by decide), g2 i i0 (by omega)]
    exact (if_neg (by omega)).symm
  · rw [zMg_in (j := 1) rfl, q_fi_ne (by decide), q_fi_in (by omega) (by omega)]
    rfl
  · rw [zMg_in (j := 1) rfl, q_fi_ne (by decide), q_fi_in (by omega) (by omega)]
    exact (q_sm_zero (fun i _ => rfl)).symm
  · rw [zMg_in (j := 2) rfl, q_fi_in (by omega) (by omega)]
    rfl
  · rw [zMg_out (by simp; omega), fr2 c (by omega), fr1 c (by omega)]
end SF
