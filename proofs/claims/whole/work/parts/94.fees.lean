/-! ===== the fees stay as they were paid ===== -/
section GA
variable {m dl a : Nat} {B kd who sum ot : Int} {tm ex pr J s : Int → Int} {σ : QS}
theorem q_qt_90 : (q_qt m tm ex σ).1 90 = (q_pay m ex (-1) (q_fee m tm σ.1) σ).1 90 + 1 := by
  show q_qb tm (q_fee m tm σ.1) (q_pay m ex (-1) (q_fee m tm σ.1) σ).1 90 = _
  rw [q_qb_k6 (Or.inr (Or.inr (Or.inl rfl))), if_pos rfl]
theorem q_qt_90' (hm : m ≤ 6) : (q_qt m tm ex σ).1 90 = σ.1 90 + 1 := by
  rw [q_qt_90]
  show q_py m _ σ.1 90 + 1 = _
  rw [q_py_hi (by omega)]
theorem q_wn_90 (hm : m ≤ 6) : ∀ n : Nat, (q_wn m tm ex n σ).1 90 = σ.1 90 + n
  | 0 => by rw [q_wn]; omega
  | n + 1 => by rw [q_wn, q_qt_90' hm, q_wn_90 hm n]; omega
theorem q_wn_old (hm : m ≤ 6) {q : Int} (hq : q < σ.1 90) : ∀ n : Nat, (q_wn m tm ex n σ).2.2.2 q = σ.2.2.2 q
  | 0 => by rw [q_wn]
  | n + 1 => by
    have e := q_wn_90 (tm := tm) (ex := ex) (σ := σ) hm n
    show q_up (q_wn m tm ex n σ).2.2.2 ((q_wn m tm ex n σ).1 90) _ q = _
    rw [q_up_ne (by omega), q_wn_old hm hq n]
theorem q_wn_fee (hm : m ≤ 6) : ∀ (n i : Nat), i < n → (q_wn m tm ex n σ).2.2.2 (σ.1 90 + i) = q_fee m tm (q_wn m tm ex i σ).1
  | 0, i, h => by omega
  | n + 1, i, h => by
    have e := q_wn_90 (tm := tm) (ex := ex) (σ := σ) hm n
    show q_up (q_wn m tm ex n σ).2.2.2 ((q_wn m tm ex n σ).1 90) (q_fee m tm (q_wn m tm ex n σ).1) (σ.1 90 + i) = _
    by_cases hi : i = n
    · subst hi
      rw [e, q_up_at]
    · rw [q_up_ne (by omega), q_wn_fee hm n i (by omega)]
theorem q_do_fees (hm : m ≤ 6) {q : Int} (hq : q < σ.1 90) : (q_do m tm ex kd who sum ot σ).2.2.2 q = σ.2.2.2 q := by
  unfold q_do
  by_cases k4 : kd = 4
  · rw [if_neg (by omega), if_neg (by omega), if_neg (by omega), if_neg (by omega), if_pos k4]
    exact q_wn_old hm hq _
  · by_cases k0 : kd = 0
    · rw [if_pos k0]; rfl
    by_cases k1 : kd = 1
    · rw [if_neg k0, if_pos k1]; rfl
    by_cases k2 : kd = 2
    · rw [if_neg k0, if_neg k1, if_pos k2]; rfl
    by_cases k3 : kd = 3
    · rw [if_neg k0, if_neg k1, if_neg k2, if_pos k3]
    by_cases k5 : kd = 5
    · rw [if_neg k0, if_neg k1, if_neg k2, if_neg k3, if_neg k4, if_pos k5]
    by_cases k7 : kd = 7
    · rw [if_neg k0, if_neg k1, if_neg k2, if_neg k3, if_neg k4, if_neg k5, if_pos k7]
    rw [if_neg k0, if_neg k1, if_neg k2, if_neg k3, if_neg k4, if_neg k5, if_neg k7]
    rfl
theorem q_do_90 (hf : q_fu m dl tm ex pr) (hi : q_inv m dl B σ.1) (ha : q_ac m dl kd who sum ot) : σ.1 90 ≤ (q_do m tm ex kd who sum ot σ).1 90 := by
  have hm := hf.1
  have hdl := hf.2.1
  have e6 : q_e6 σ σ := ⟨fun _ _ => rfl, rfl⟩
  have k90 : q_k6 90 := Or.inr (Or.inr (Or.inl rfl))
  obtain ⟨⟨a1, a2⟩, a3, a4, a5, -⟩ := ha
  unfold q_do
  by_cases k0 : kd = 0
  · rw [if_pos k0]
    have hw := a3 (by omega)
    show σ.1 90 ≤ q_rs tm who sum (q_py m _ σ.1) 90
    unfold q_rs
    rw [if_neg (by omega), if_neg (by omega), if_neg (by omega), q_py_hi (by omega)]
    exact Int.le_refl _
  rw [if_neg k0]
  by_cases k1 : kd = 1
  · rw [if_pos k1]
    have hw := a3 (by omega)
    show σ.1 90 ≤ q_gt m _ (q_sb tm who sum 0 σ.1) 90
    rw [q_gt_k6 hm k90, q_sb_at hw.1 (by omega) (by omega)]
    exact Int.le_refl _
  rw [if_neg k1]
  by_cases k2 : kd = 2
  · rw [if_pos k2]
    have hw := a3 (by omega)
    show σ.1 90 ≤ q_gt m _ (q_sb tm who sum 1 σ.1) 90
    rw [q_gt_k6 hm k90, q_sb_at hw.1 (by omega) (by omega)]
    exact Int.le_refl _
  rw [if_neg k2]
  by_cases k3 : kd = 3
  · rw [if_pos k3]
    have hw := a3 (by omega)
    show σ.1 90 ≤ q_up σ.1 (30 + 4 * who + 2) sum 90
    rw [q_up_ne (by omega)]
    exact Int.le_refl _
  rw [if_neg k3]
  by_cases k4 : kd = 4
  · rw [if_pos k4, q_wn_90 hm]
    omega
  rw [if_neg k4]
  by_cases k5 : kd = 5
  · rw [if_pos k5]
    have hw := a4 (Or.inl k5)
    show σ.1 90 ≤ q_fa who σ.1 90
    unfold q_fa
    rw [if_neg (by omega), if_neg (by omega)]
    exact Int.le_refl _
  rw [if_neg k5]
  by_cases k7 : kd = 7
  · rw [if_pos k7]
    have hw := a4 (Or.inr k7)
    have ho := a5 k7
    show σ.1 90 ≤ q_mv who ot sum σ.1 90
    unfold q_mv
    rw [if_neg (by omega), if_neg (by omega), if_neg (by omega), if_neg (by omega)]
    exact Int.le_refl _
  rw [if_neg k7]
  show σ.1 90 ≤ q_gt m _ (q_en tm σ.1) 90
  rw [q_gt_k6 hm k90]
  unfold q_en
  rw [if_neg (by omega), if_neg (by omega), if_neg (by omega), if_neg (by omega)]
  exact Int.le_refl _
theorem q_run_fees (hf : q_fu m dl tm ex pr) (hj : q_jo m dl tm ex pr J a) {k : Nat} {q : Int} (hq : q < (q_run m tm ex pr J k).1 90) : ∀ i : Nat, k + i ≤ a → (q_run m tm ex pr J (k + i)).2.2.2 q = (q_run m tm ex pr J k).2.2.2 q ∧ (q_run m tm ex pr J k).1 90 ≤ (q_run m tm ex pr J (k + i)).1 90
  | 0, _ => ⟨rfl, Int.le_refl _⟩
  | i + 1, hi => by
    obtain ⟨e1, e2⟩ := q_run_fees hf hj hq i (by omega)
    have g := q_run_inv hf hj (k + i) (by omega)
    refine ⟨?_, ?_⟩
    · show (q_do m tm ex _ _ _ _ (q_run m tm ex pr J (k + i))).2.2.2 q = _
      rw [q_do_fees hf.1 (by omega), e1]
    · have := q_do_90 (kd := J (5 * ((k + i : Nat) : Int))) hf g.1 (hj.2 (k + i) (by omega)).1
      exact Int.le_trans e2 this
end GA
