/-! ===== face: bar ===== -/
section GI
variable {m dl a : Nat} {x y z : Int} {κ μ ν : ZMem}
theorem z_bar (hf : q_fu m dl (μ 2) (μ 4) (μ 3)) (hj : q_jo m dl (μ 2) (μ 4) (μ 3) (μ 8) a) (C : c_at m dl a (μ 2) (μ 4) (μ 3) (μ 8) κ) (K : Int → ZMem → Option ZRes) (c2 : Int) : ∀ (n fu fu' : Nat) (κ1 ν : ZMem), n < fu → n < fu' → n ≤ 1000 → c_fr κ κ1 → m_tr m dl a 0 μ ν → ∃ r κ2 ν', L_Ledger_bar_24 x (fun μ7 => some (.inr (some (zI (-1))), μ7)) fu ((n : Int) - 1) κ1 = some (.inr (some (zI r)), κ2) ∧ L_Model_bar_44 x c2 K fu' ((n : Int) - 1) ν = K r ν' ∧ c_fr κ κ2 ∧ m_tr m dl a 0 μ ν'
  | 0, fu + 1, fu' + 1, κ1, ν, _, _, _, fr, R => by
    refine ⟨-1, κ1, ν, ?_, ?_, fr, R⟩
    · rw [L_Ledger_bar_24, w32_of (by omega) (by omega), if_pos (by omega)]
    · rw [L_Model_bar_44, w32_of (by omega) (by omega), if_pos (by omega)]
      rfl
  | n + 1, fu + 1, fu' + 1, κ1, ν, h, h', hn, fr, R => by
    have e : ((n + 1 : Nat) : Int) - 1 = n := by omega
    have ed : (n : Int) + (-1) = (n : Int) - 1 := by omega
    have ht' : q_tm (q_up (μ 2) 0 n) := hf.2.2.1.set (k := 0) (y := n) (by decide) (by omega) (show (n : Int) ≤ 999 by omega)
    obtain ⟨κ2, c2', b2, f2⟩ := k_under (x := 0) (y := n) (C.fr fr) hf hj (by decide) (by decide) ht'
    obtain ⟨ν2, r2, R2, e2, h5, at2⟩ := R.step (y := n) (by decide) (by decide) ht'
    have fr2 : c_fr κ κ2 := fr.tr (c_fr.under (ex := μ 4) (pr := μ 3) (J := μ 8) f2)
    rw [L_Ledger_bar_24, L_Model_bar_44, e, w32_of (by omega) (by omega), if_neg (by omega), if_neg (by omega), c2', zC_Rc, b_netTaken b2, zCm_J, zMg_vw, q_nm_lo (by omega), q_nm_lo (by omega)]
    unfold F_Model_keptBy
    rw [zWr_ok (by decide) (by decide) (by decide), r2, zC_V, m_keeps, zC_J, zC_J, h5, zLet_eq, zLet_eq, ed]
    by_cases hc : w64 ((q_run m (q_up (μ 2) 0 n) (μ 4) (μ 3) (μ 8) a).1 86 - (q_run m (q_up (μ 2) 0 n) (μ 4) (μ 3) (μ 8) a).1 89) < w64 (w32 x)
    · rw [if_pos hc, if_neg (by omega)]
      exact z_bar hf hj C K c2 n fu fu' κ2 ν2 (by omega) (by omega) (by omega) fr2 R2
    · rw [if_neg hc, if_pos (by omega)]
      exact ⟨n, κ2, ν2, rfl, rfl, fr2, R2⟩
end GI
