/-! ===== the books do an act of the journal again ===== -/
section GC
variable {m dl a : Nat} {B : Int} {tm ex pr J s : Int → Int} {σ : QS} {ν : ZMem}
theorem b_retrace {k : Nat} (h : b_bk dl tm (q_nm σ.1) ν) (hi : q_inv m dl B σ.1) (hf : q_fu m dl tm ex pr) (hB0 : 0 ≤ B) (hB1 : B + 2 * (200 - σ.1 90) ≤ 760) (hJ : j_rw J a (ν 7)) (hk : k < a) (ha60 : a ≤ 60) (ha : q_ja m dl J k) (hc : q_jc m dl ex J k σ.1 = 1) (hfee : J (5 * k) = 4 → ∀ i : Nat, (i : Int) < J (5 * k + 2) → ν 8 (σ.1 90 + i) = q_fee m tm (q_wn m tm ex i σ).1) : ∃ ν', F_Books_retrace k ν = some (.inr none, ν') ∧ b_bk dl tm (q_nm (q_jd m tm ex J k σ).1) ν' ∧ ∀ c, 6 ≤ c → ν' c = ν c := by
  have h6 := hf.1
  have hdl := hf.2.1
  have ht := hf.2.2.1
  have h90 := hi.2.2.2.1.2.2.2.2.1
  obtain ⟨j0, j1, j2, j3, j4⟩ := hJ k hk
  have haa := ha
  unfold q_ja at haa
  unfold q_jc at hc
  have e00 : (k : Int) * 7 + 0 = k * 7 := Int.add_zero _
  unfold F_Books_retrace q_jd
  rw [zRd_ok (by omega) (by omega) (by omega), zRd_ok (by omega) (by omega) (by omega), zRd_ok (by omega) (by omega) (by omega), e00, j0, j1, j2]
  generalize J (5 * (k : Int)) = kd at *
  generalize J (5 * (k : Int) + 1) = who at *
  generalize J (5 * (k : Int) + 2) = sum at *
  generalize J (5 * (k : Int) + 4) = ot at *
  obtain ⟨⟨a1, a2⟩, a3, a4, a5, ⟨a6, a7⟩, a8, a9, a10⟩ := haa
  have wk : w32 kd = kd := w32_of (by omega) (by omega)
  have w2 : w32 2 = 2 := w32_of (by decide) (by decide)
  rw [wk]
  unfold q_do
  by_cases k0 : kd = 0
  · rw [if_pos k0, if_pos k0]
    have hw := a3 (by omega)
    obtain ⟨ν1, r, -, b1⟩ := b_raise (d := who) (sum := sum) (b_vwBB h) ht hw.1 (by omega) a6 a7
    rw [q_nm_rs hw.1 (by omega)] at b1
    refine ⟨zMg plBB ν ν1, by rw [r, zCm_V], (b_mgBB b1).congr (q_nm_hi (fun k hk => ?_)), fun c hc => k_mgBB c hc⟩
    show q_rs tm who sum (q_py m _ σ.1) k = q_rs tm who sum σ.1 k
    unfold q_rs
    rw [q_py_hi (by omega)]
  rw [if_neg k0, if_neg k0]
  have sell : ∀ last, last = 0 ∨ last = 1 → kd ≤ 3 → ∃ ν', J_Books_retrace_111 last sum who ν = some (.inr none, ν') ∧ b_bk dl tm (q_nm (q_sell m tm ex who sum last σ).1) ν' ∧ ∀ c, 6 ≤ c → ν' c = ν c := fun last hl hk3 => by
    have hw := a3 hk3
    obtain ⟨ν1, r, b1, -⟩ := b_sellDeal (d := who) (sum := sum) (last := last) (b_vwBB h) (hi.nm h6) h6 hdl hB0 (by omega) ht hw.1 hw.2 a6 a7 hl
    rw [q_nm_sb hw.1 (by omega)] at b1
    unfold J_Books_retrace_111
    exact ⟨zMg plBB ν ν1, by rw [r, zCm_V], (b_mgBB b1).congr (q_nm_hi (q_sell_hi h6 (fun _ _ => rfl) hw.1)), fun c hc => k_mgBB c hc⟩
  by_cases k1 : kd = 1
  · rw [if_pos k1, if_pos k1, w2, if_neg (by omega)]
    exact sell 0 (Or.inl rfl) (by omega)
  rw [if_neg k1, if_neg k1]
  by_cases k2 : kd = 2
  · rw [if_pos k2, if_pos k2, w2, if_pos k2]
    exact sell 1 (Or.inr rfl) (by omega)
  rw [if_neg k2, if_neg k2]
  by_cases k3 : kd = 3
  · rw [if_pos k3, if_pos k3]
    have hw := a3 (by omega)
    refine ⟨ν, rfl, ?_, fun _ _ => rfl⟩
    show b_bk dl tm (q_nm (q_up σ.1 (30 + 4 * who + 2) sum)) ν
    rw [q_nm_mark (by unfold q_mk; omega)]
    exact h
  rw [if_neg k3, if_neg k3]
  by_cases k4 : kd = 4
  · rw [if_pos k4, if_pos k4]
    subst k4
    have hw := q_can_wait hc
    have h60 := a8 rfl
    obtain ⟨n, rfl⟩ := Int.eq_ofNat_of_zero_le a6
    rw [Int.toNat_natCast]
    exact b_retrace_wait h hi hf hB0 hB1 (by omega) (by omega) (fun i hi' => hfee rfl i (by omega)) (fun μ17 => some (.inr none, μ17)) |>.imp (fun ν' hh => hh)
  rw [if_neg k4, if_neg k4]
  by_cases k5 : kd = 5
  · rw [if_pos k5, if_pos k5]
    have hw := a4 (Or.inl k5)
    refine ⟨ν, rfl, h.congr (q_nm_hi (fun k hk => ?_)), fun _ _ => rfl⟩
    show q_fa who σ.1 k = σ.1 k
    unfold q_fa
    rw [if_neg (by omega), if_neg (by omega)]
  rw [if_neg k5, if_neg k5]
  by_cases k7 : kd = 7
  · rw [if_pos k7, if_neg (show ¬ kd = 6 by omega)]
    have hw := a4 (Or.inr k7)
    have ho := a5 k7
    refine ⟨ν, rfl, h.congr (q_nm_hi (fun k hk => ?_)), fun _ _ => rfl⟩
    show q_mv who ot sum σ.1 k = σ.1 k
    unfold q_mv
    rw [if_neg (by omega), if_neg (by omega), if_neg (by omega), if_neg (by omega)]
  rw [if_neg k7, if_pos (show kd = 6 by omega)]
  obtain ⟨ν1, r, b1⟩ := b_settle (b_vwBB h) (hi.nm h6) hB0 (by omega) ht
  rw [q_nm_en] at b1
  refine ⟨zMg plBB ν ν1, by rw [r, zCm_J], (b_mgBB b1).congr (q_nm_hi (fun k hk => ?_)), fun c hc => k_mgBB c hc⟩
  show q_gt m _ (q_en tm σ.1) k = q_en tm σ.1 k
  exact q_gt_ne (by omega)
end GC
