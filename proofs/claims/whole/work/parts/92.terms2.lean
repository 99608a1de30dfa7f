/-! ===== the journal under another term ===== -/
section FY
variable {m dl a : Nat} {kd who sum ot : Int} {tm tm' ex pr J s s' : Int → Int} {σ σ' : QS}
theorem q_e6.act (h : q_e6 σ σ') (hm : m ≤ 6) (hdl : dl ≤ 6) (h6 : tm' 6 = tm 6) (ha : q_ac m dl kd who sum ot) : q_e6 (q_do m tm ex kd who sum ot σ) (q_do m tm' ex kd who sum ot σ') := by
  obtain ⟨⟨a1, a2⟩, a3, a4, a5, -⟩ := ha
  unfold q_do
  by_cases k0 : kd = 0
  · rw [if_pos k0, if_pos k0]
    have hw := a3 (by omega)
    refine ⟨fun k hk => ?_, h.2⟩
    show q_rs tm' who sum (q_py m _ σ'.1) k = q_rs tm who sum (q_py m _ σ.1) k
    have e := h.py (ex := ex) (d := who) (sum := sum) (w := fun _ => 0) hm k hk
    unfold q_k6 at hk
    unfold q_rs
    rw [if_neg (show ¬ k = 54 by omega), if_neg (show ¬ (k = 54 + 4 * (2 + who) ∧ tm' 3 = 1) by omega), if_neg (show ¬ k = 54 by omega), if_neg (show ¬ (k = 54 + 4 * (2 + who) ∧ tm 3 = 1) by omega), e]
  rw [if_neg k0, if_neg k0]
  by_cases k1 : kd = 1
  · rw [if_pos k1, if_pos k1]
    have hw := a3 (by omega)
    exact h.sell hm hw.1 (by omega)
  rw [if_neg k1, if_neg k1]
  by_cases k2 : kd = 2
  · rw [if_pos k2, if_pos k2]
    have hw := a3 (by omega)
    exact h.sell hm hw.1 (by omega)
  rw [if_neg k2, if_neg k2]
  by_cases k3 : kd = 3
  · rw [if_pos k3, if_pos k3]
    refine ⟨fun k hk => ?_, h.2⟩
    show q_up σ'.1 _ _ k = q_up σ.1 _ _ k
    by_cases e : k = 30 + 4 * who + 2
    · rw [e, q_up_at, q_up_at]
    · rw [q_up_ne e, q_up_ne e, h.1 k hk]
  rw [if_neg k3, if_neg k3]
  by_cases k4 : kd = 4
  · rw [if_pos k4, if_pos k4]
    exact h.wn hm h6 _
  rw [if_neg k4, if_neg k4]
  by_cases k5 : kd = 5
  · rw [if_pos k5, if_pos k5]
    refine ⟨fun k hk => ?_, h.2⟩
    show q_fa who σ'.1 k = q_fa who σ.1 k
    unfold q_fa
    rw [h.1 k hk]
  rw [if_neg k5, if_neg k5]
  by_cases k7 : kd = 7
  · rw [if_pos k7, if_pos k7]
    have hw := a4 (Or.inr k7)
    refine ⟨fun k hk => ?_, h.2⟩
    show q_mv who ot sum σ'.1 k = q_mv who ot sum σ.1 k
    have ev : q_ov who sum σ'.1 = q_ov who sum σ.1 := by
      unfold q_ov
      rw [h.1 (5 * who + 1) (Or.inl (by omega)), h.1 (5 * who) (Or.inl (by omega))]
    unfold q_mv
    rw [h.1 k hk, ev]
  rw [if_neg k7, if_neg k7]
  exact h.en hm
theorem q_acl_e6 (h : ∀ k, q_k6 k → s' k = s k) : ∀ d : Nat, d ≤ 6 → q_acl s' d = q_acl s d
  | 0, _ => rfl
  | d + 1, hd => by
    rw [q_acl, q_acl, q_acl_e6 h d (by omega), h (30 + 4 * d + 3) (Or.inr (Or.inl (by omega)))]
theorem q_e6.can (h : q_e6 σ σ') (hm : m ≤ 6) (hdl : dl ≤ 6) (ha : q_ac m dl kd who sum ot) : q_can m dl ex kd who sum ot σ'.1 = q_can m dl ex kd who sum ot σ.1 := by
  obtain ⟨⟨a1, a2⟩, a3, a4, a5, -⟩ := ha
  have e91 := h.1 91 (Or.inr (Or.inr (Or.inr rfl)))
  have e90 := h.1 90 (Or.inr (Or.inr (Or.inl rfl)))
  unfold q_can
  rw [e91, e90, q_acl_e6 h.1 dl hdl]
  by_cases k3 : kd ≤ 3
  · have hw := a3 k3
    rw [h.1 (30 + 4 * who + 3) (Or.inr (Or.inl (by omega))), q_sm_congr (f := q_wp ex σ'.1 who) (g := q_wp ex σ.1 who) (fun i hi => h.wp hm i hi)]
    rw [if_neg (show ¬ kd = 5 by omega), if_neg (show ¬ kd = 7 by omega), if_neg (show ¬ kd = 5 by omega), if_neg (show ¬ kd = 7 by omega)]
  · rw [if_neg (show ¬ kd = 0 by omega), if_neg (show ¬ kd = 1 by omega), if_neg (show ¬ kd = 2 by omega), if_neg (show ¬ kd = 0 by omega), if_neg (show ¬ kd = 1 by omega), if_neg (show ¬ kd = 2 by omega)]
    by_cases k5 : kd = 5
    · have hw := a4 (Or.inl k5)
      rw [h.1 (5 * who + 4) (Or.inl (by omega)), if_neg (show ¬ kd = 7 by omega), if_neg (show ¬ kd = 7 by omega)]
    · rw [if_neg k5, if_neg k5]
      by_cases k7 : kd = 7
      · have hw := a4 (Or.inr k7)
        have ho := a5 k7
        unfold q_cmv
        rw [h.1 (5 * who) (Or.inl (by omega)), h.1 (5 * ot) (Or.inl (by omega)), h.1 (5 * who + 4) (Or.inl (by omega)), h.1 (5 * ot + 4) (Or.inl (by omega))]
      · rw [if_neg k7, if_neg k7]
theorem q_e6.run (hm : m ≤ 6) (hdl : dl ≤ 6) (h6 : tm' 6 = tm 6) (ha : ∀ k : Nat, k < a → q_ja m dl J k) : ∀ k : Nat, k ≤ a → q_e6 (q_run m tm ex pr J k) (q_run m tm' ex pr J k)
  | 0, _ => ⟨fun _ _ => rfl, rfl⟩
  | k + 1, hk => (q_e6.run hm hdl h6 ha k (by omega)).act (dl := dl) hm hdl h6 (ha k (by omega))
theorem q_jo.terms (hf : q_fu m dl tm ex pr) (hj : q_jo m dl tm ex pr J a) (h6 : tm' 6 = tm 6) : q_jo m dl tm' ex pr J a := by
  refine ⟨hj.1, fun k hk => ⟨(hj.2 k hk).1, ?_⟩⟩
  have e := q_e6.run (tm := tm) (tm' := tm') (ex := ex) (pr := pr) hf.1 hf.2.1 h6 (fun k hk => (hj.2 k hk).1) k (by omega)
  exact (e.can hf.1 hf.2.1 (hj.2 k hk).1).trans (hj.2 k hk).2
end FY
