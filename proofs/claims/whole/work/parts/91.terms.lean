/-! ===== what the first six terms don't decide: who owes what, the deals, the quarter, the end, the fees ===== -/
def q_k6 (k : Int) : Prop := (k < 30 ∧ k % 5 ≠ 3) ∨ (30 ≤ k ∧ k < 54) ∨ k = 90 ∨ k = 91
def q_e6 (σ σ' : QS) : Prop := (∀ k, q_k6 k → σ'.1 k = σ.1 k) ∧ σ'.2.2.2 = σ.2.2.2
section FX
variable {m dl : Nat} {d sum last : Int} {tm tm' ex s s' : Int → Int} {σ σ' : QS}
theorem q_sb_k6 {k : Int} (d0 : 0 ≤ d) (d1 : d < 6) (hk : q_k6 k) : q_sb tm d sum last s k = if k = 30 + 4 * d + 1 then s k + sum else if last ≠ 0 ∧ k = 30 + 4 * d + 3 then 1 else s k := by
  unfold q_k6 at hk
  have e1 : q_sl1 d sum s k = if k = 30 + 4 * d + 1 then s k + sum else s k := by
    unfold q_sl1
    by_cases h : k = 30 + 4 * d + 1
    · rw [if_pos h, h, q_up_at]
    · rw [if_neg h, q_up_ne h]
  have e2 : q_sl2 tm d sum s k = q_sl1 d sum s k := by
    unfold q_sl2
    split
    · rw [q_fl_at (by omega) (by omega) (by omega), q_fl_at (by omega) (by omega) (by omega)]
    · rw [q_fl_at (by omega) (by omega) (by omega)]
  have e3 : ∀ M, q_sl3 tm M (q_sl2 tm d sum s) k = q_sl1 d sum s k := fun M => by
    unfold q_sl3
    rw [if_neg (by omega), if_neg (by omega), if_neg (by omega), e2]
  unfold q_sb
  by_cases hl : last = 0
  · rw [if_pos hl, e3, e1]
    by_cases h : k = 30 + 4 * d + 1
    · rw [if_pos h, if_pos h]
    · rw [if_neg h, if_neg h, if_neg (fun q => q.1 hl)]
  · rw [if_neg hl]
    unfold q_sl4
    by_cases h3 : k = 30 + 4 * d + 3
    · rw [if_pos h3, if_neg (show ¬ k = 30 + 4 * d + 1 by omega), if_pos ⟨hl, h3⟩]
    · rw [if_neg h3, if_neg (by omega), if_neg (by omega), if_neg (by omega), if_neg (by omega), e3, e1]
      by_cases h : k = 30 + 4 * d + 1
      · rw [if_pos h, if_pos h]
      · rw [if_neg h, if_neg h, if_neg (fun q => h3 q.2)]
theorem q_gt_k6 {k : Int} {pt : Int → Int} (hm : m ≤ 6) (hk : q_k6 k) : q_gt m pt s k = s k := by
  unfold q_k6 at hk
  exact q_gt_ne (by omega)
theorem q_e6.wp (h : q_e6 σ σ') (hm : m ≤ 6) (i : Nat) (hi : i < m) : q_wp ex σ'.1 d i = q_wp ex σ.1 d i := q_wp_congr (h.1 _ (Or.inl (by omega)))
theorem q_e6.py {w : Int → Int} (h : q_e6 σ σ') (hm : m ≤ 6) : ∀ k, q_k6 k → q_py m (q_shr m (q_wp ex σ'.1 d) sum) σ'.1 k = q_py m (q_shr m (q_wp ex σ.1 d) sum) σ.1 k := fun k hk => by
  have e : q_py m (q_shr m (q_wp ex σ'.1 d) sum) σ'.1 = q_py m (q_shr m (q_wp ex σ.1 d) sum) σ'.1 := q_py_congr (q_shr_congr (fun i hi => h.wp hm i hi))
  rw [e]
  unfold q_py
  rw [h.1 k hk]
theorem q_e6.fee (h : q_e6 σ σ') (hm : m ≤ 6) (h6 : tm' 6 = tm 6) : q_fee m tm' σ'.1 = q_fee m tm σ.1 := by
  unfold q_fee
  rw [h6, q_sm_congr (f := fun i => σ'.1 (5 * i + 1)) (g := fun i => σ.1 (5 * i + 1)) (fun i hi => h.1 _ (Or.inl (by omega))), q_sm_congr (f := fun i => σ'.1 (5 * i)) (g := fun i => σ.1 (5 * i)) (fun i hi => h.1 _ (Or.inl (by omega)))]
theorem q_qb_k6 {k fee : Int} (hk : q_k6 k) : q_qb tm fee s k = if k = 90 then s k + 1 else s k := by
  unfold q_k6 at hk
  unfold q_qb q_pf
  rw [if_neg (by omega), if_neg (by omega), if_neg (show ¬ (54 ≤ k ∧ k < 86 ∧ (k - 54) % 4 = 1) by omega)]
theorem q_e6.qt (h : q_e6 σ σ') (hm : m ≤ 6) (h6 : tm' 6 = tm 6) : q_e6 (q_qt m tm ex σ) (q_qt m tm' ex σ') := by
  have ef := h.fee (tm := tm) (tm' := tm') hm h6
  refine ⟨fun k hk => ?_, ?_⟩
  · show q_qb tm' (q_fee m tm' σ'.1) (q_py m _ σ'.1) k = q_qb tm (q_fee m tm σ.1) (q_py m _ σ.1) k
    rw [q_qb_k6 hk, q_qb_k6 hk, ef, h.py (w := fun _ => 0) hm k hk]
  · show q_up σ'.2.2.2 (σ'.1 90) (q_fee m tm' σ'.1) = q_up σ.2.2.2 (σ.1 90) (q_fee m tm σ.1)
    rw [ef, h.2, h.1 90 (Or.inr (Or.inr (Or.inl rfl)))]
theorem q_e6.wn (h : q_e6 σ σ') (hm : m ≤ 6) (h6 : tm' 6 = tm 6) : ∀ n : Nat, q_e6 (q_wn m tm ex n σ) (q_wn m tm' ex n σ')
  | 0 => h
  | n + 1 => (q_e6.wn h hm h6 n).qt hm h6
theorem q_e6.sell (h : q_e6 σ σ') (hm : m ≤ 6) (d0 : 0 ≤ d) (d1 : d < 6) : q_e6 (q_sell m tm ex d sum last σ) (q_sell m tm' ex d sum last σ') := by
  refine ⟨fun k hk => ?_, h.2⟩
  show q_gt m _ (q_sb tm' d sum last σ'.1) k = q_gt m _ (q_sb tm d sum last σ.1) k
  rw [q_gt_k6 hm hk, q_gt_k6 hm hk, q_sb_k6 d0 d1 hk, q_sb_k6 d0 d1 hk, h.1 k hk]
theorem q_e6.en (h : q_e6 σ σ') (hm : m ≤ 6) : q_e6 (q_end m tm ex σ) (q_end m tm' ex σ') := by
  refine ⟨fun k hk => ?_, h.2⟩
  show q_gt m _ (q_en tm' σ'.1) k = q_gt m _ (q_en tm σ.1) k
  rw [q_gt_k6 hm hk, q_gt_k6 hm hk]
  have e := h.1 k hk
  unfold q_k6 at hk
  unfold q_en
  rw [if_neg (by omega), if_neg (by omega), if_neg (by omega), if_neg (show ¬ k = 87 by omega), if_neg (show ¬ k = 88 by omega), if_neg (show ¬ k = 89 by omega), e]
end FX
