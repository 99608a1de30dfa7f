/-! ===== the books alone follow the books; face: soldOut ===== -/
theorem m_at.cong9 {m dl a : Nat} {μ μ' : ZMem} (h : m_at m dl a μ) (ha : a ≤ 60) (e : ∀ c, 2 ≤ c → c ≤ 8 → μ' c = μ c) (e9 : ∀ k, k ≠ 60 → μ' 9 k = μ 9 k ∧ μ' 10 k = μ 10 k) (e0 : ∀ k, k = 5 ∨ k = 6 ∨ k = 11 ∨ k = 14 → μ' 0 k = μ 0 k) : m_at m dl a μ' := by
  unfold m_at m_cf
  rw [e 2 (by decide) (by decide), e 3 (by decide) (by decide), e 4 (by decide) (by decide), e 5 (by decide) (by decide), e 6 (by decide) (by decide), e 7 (by decide) (by decide), e 8 (by decide) (by decide), e0 5 (by decide), e0 6 (by decide), e0 11 (by decide), e0 14 (by decide)]
  obtain ⟨h1, h2, h3, h4, h5⟩ := h
  refine ⟨h1, h2, h3, h4, fun k hk => ?_⟩
  rw [(e9 k (by omega)).1, (e9 k (by omega)).2]
  exact h5 k hk
section FJ
variable {tm s s' : Int → Int} {d sum last l b : Int}
theorem q_fl_hi (h : ∀ k, 30 ≤ k → s' k = s k) (hl : 0 ≤ l) : ∀ k, 30 ≤ k → q_fl tm l b sum s' k = q_fl tm l b sum s k := fun k hk => by
  have e1 : q_cc l b s' = q_cc l b s := by unfold q_cc; rw [h _ (by omega), h _ (by omega)]
  have e2 : q_cp l b s' = q_cp l b s := by unfold q_cp; rw [h _ (by omega), h _ (by omega)]
  have e3 : q_fM tm l b sum s' = q_fM tm l b sum s := by unfold q_fM; rw [e1, e2, h _ (by omega), h _ (by omega)]
  unfold q_fl
  rw [e1, e2, e3, h k hk, h (54 + 4 * l) (by omega), h (54 + 4 * l + 1) (by omega)]
theorem q_fM_hi (h : ∀ k, 30 ≤ k → s' k = s k) (hl : 0 ≤ l) : q_fM tm l b sum s' = q_fM tm l b sum s := by
  have e1 : q_cc l b s' = q_cc l b s := by unfold q_cc; rw [h _ (by omega), h _ (by omega)]
  have e2 : q_cp l b s' = q_cp l b s := by unfold q_cp; rw [h _ (by omega), h _ (by omega)]
  unfold q_fM
  rw [e1, e2, h _ (by omega), h _ (by omega)]
theorem q_sl1_hi (h : ∀ k, 30 ≤ k → s' k = s k) (hd : 0 ≤ d) : ∀ k, 30 ≤ k → q_sl1 d sum s' k = q_sl1 d sum s k := fun k hk => by
  unfold q_sl1
  by_cases e : k = 30 + 4 * d + 1
  · subst e
    rw [q_up_at, q_up_at, h _ (by omega)]
  · rw [q_up_ne e, q_up_ne e, h k hk]
theorem q_sl2_hi (h : ∀ k, 30 ≤ k → s' k = s k) (hd : 0 ≤ d) : ∀ k, 30 ≤ k → q_sl2 tm d sum s' k = q_sl2 tm d sum s k := fun k hk => by
  unfold q_sl2
  split
  · exact q_fl_hi (q_fl_hi (q_sl1_hi h hd) (by omega)) (by omega) k hk
  · exact q_fl_hi (q_sl1_hi h hd) (by omega) k hk
theorem q_slM_hi (h : ∀ k, 30 ≤ k → s' k = s k) (hd : 0 ≤ d) : q_slM tm d sum s' = q_slM tm d sum s := by
  unfold q_slM
  split
  · exact q_fM_hi (q_fl_hi (q_sl1_hi h hd) (by omega)) (by omega)
  · exact q_fM_hi (q_sl1_hi h hd) (by omega)
theorem q_sl3_hi {M : Int} (h : ∀ k, 30 ≤ k → s' k = s k) : ∀ k, 30 ≤ k → q_sl3 tm M s' k = q_sl3 tm M s k := fun k hk => by
  unfold q_sl3
  rw [h k hk]
theorem q_sl4_hi (h : ∀ k, 30 ≤ k → s' k = s k) (hd : 0 ≤ d) : ∀ k, 30 ≤ k → q_sl4 d s' k = q_sl4 d s k := fun k hk => by
  unfold q_sl4
  rw [h k hk, h (54 + 4 * (2 + d)) (by omega), h (54 + 4 * (2 + d) + 1) (by omega)]
theorem q_sb_hi (h : ∀ k, 30 ≤ k → s' k = s k) (hd : 0 ≤ d) : ∀ k, 30 ≤ k → q_sb tm d sum last s' k = q_sb tm d sum last s k := fun k hk => by
  unfold q_sb
  rw [q_slM_hi h hd]
  split
  · exact q_sl3_hi (q_sl2_hi h hd) k hk
  · exact q_sl4_hi (q_sl3_hi (q_sl2_hi h hd)) hd k hk
theorem q_cw_hi (h : ∀ k, 30 ≤ k → s' k = s k) : q_cw tm s' = q_cw tm s := by
  unfold q_cw q_ou q_hl q_due
  rw [h 91 (by decide), h 86 (by decide), h 57 (by decide), h 88 (by decide), h 87 (by decide)]
variable {m : Nat} {ex : Int → Int} {σ : QS}
theorem q_sell_hi (h6 : m ≤ 6) (h : ∀ k, 30 ≤ k → σ.1 k = s k) (hd : 0 ≤ d) : ∀ k, 30 ≤ k → (q_sell m tm ex d sum last σ).1 k = q_sb tm d sum last s k := fun k hk => by
  show q_gt m _ (q_sb tm d sum last σ.1) k = _
  rw [q_gt_ne (by omega)]
  exact q_sb_hi h hd k hk
theorem q_sell_got (hd : 0 ≤ d) (hd6 : d < 6) (h6 : m ≤ 6) (hw : 0 < q_sm (q_wg ex σ.1 d) m) : q_sm (fun i => (q_sell m tm ex d sum last σ).1 (5 * i + 3)) m = q_sm (fun i => σ.1 (5 * i + 3)) m + (sum - q_slM tm d sum σ.1) := by
  have ew : ∀ i : Nat, i < m → q_wg ex (q_sb tm d sum last σ.1) d i = q_wg ex σ.1 d i := fun i hi => q_wg_congr (q_sb_at hd hd6 (by omega)) (q_sb_at hd hd6 (by omega))
  have hA : 0 < q_sm (q_wg ex (q_sb tm d sum last σ.1) d) m := by rw [q_sm_congr ew]; exact hw
  have hsum := q_shr_sum (sum := sum - q_slM tm d sum σ.1) hA
  rw [← hsum, ← q_sm_add]
  refine q_sm_congr (fun i hi => ?_)
  show q_gt m (q_shr m (q_wg ex (q_sb tm d sum last σ.1) d) (sum - q_slM tm d sum σ.1)) (q_sb tm d sum last σ.1) (5 * (i : Int) + 3) = _
  unfold q_gt
  rw [if_pos (by omega), q_sb_at hd hd6 (by omega), show (5 * (i : Int) + 3) / 5 = i by omega]
theorem q_sell_wg (hd : 0 ≤ d) (hd6 : d < 6) (h6 : m ≤ 6) {d' : Int} (i : Nat) (hi : i < m) : q_wg ex (q_sell m tm ex d sum last σ).1 d' i = q_wg ex σ.1 d' i := by
  refine q_wg_congr ?_ ?_
  · show q_gt m _ (q_sb tm d sum last σ.1) _ = _
    rw [q_gt_ne (by omega), q_sb_at hd hd6 (by omega)]
  · show q_gt m _ (q_sb tm d sum last σ.1) _ = _
    rw [q_gt_ne (by omega), q_sb_at hd hd6 (by omega)]
theorem q_so_hi {dl : Nat} (h6 : m ≤ 6) (hdl : dl ≤ 6) (hw : ∀ d : Nat, d < dl → 0 < q_sm (q_wg ex σ.1 d) m) : ∀ d : Nat, d ≤ dl → (∀ k, 30 ≤ k → (q_so m tm ex d σ).1 k = q_sob tm d σ.1 k) ∧ q_sm (fun i => (q_so m tm ex d σ).1 (5 * i + 3)) m = q_sm (fun i => σ.1 (5 * i + 3)) m + q_cam tm d σ.1 ∧ (∀ (d' : Int) (i : Nat), i < m → q_wg ex (q_so m tm ex d σ).1 d' i = q_wg ex σ.1 d' i)
  | 0, _ => ⟨fun _ _ => rfl, (Int.add_zero _).symm, fun _ _ _ => rfl⟩
  | d + 1, hd => by
    obtain ⟨i1, i2, i3⟩ := q_so_hi h6 hdl hw d (by omega)
    have e3 := i1 (30 + 4 * d + 3) (by omega)
    have e2 := i1 (30 + 4 * d + 2) (by omega)
    rw [q_so, q_sob, q_cam, ← e3, ← e2]
    by_cases h0 : (q_so m tm ex d σ).1 (30 + 4 * d + 3) = 0
    · rw [if_pos h0, if_pos h0, if_pos h0]
      refine ⟨q_sell_hi h6 i1 (by omega), ?_, fun d' i hi => (q_sell_wg (by omega) (by omega) h6 i hi).trans (i3 d' i hi)⟩
      rw [q_sell_got (by omega) (by omega) h6 (by rw [q_sm_congr (fun i hi => i3 d i hi)]; exact hw d (by omega)), i2, q_slM_hi i1 (by omega)]
      omega
    · rw [if_neg h0, if_neg h0, if_neg h0]
      exact ⟨i1, i2, i3⟩
end FJ
