/-! ===== the law's loop ===== -/
theorem zScr_ok {N : Nat} {xs : Nat → Int32} {i : Int} (h0 : 0 ≤ i) (h1 : i < N) (hN : N ≤ 3072) : ∃ x, q_i32 x ∧ ∀ K : Int → Option ZRes, zScr N xs i K = K x := by
  refine ⟨(xs i.toNat).toInt, ⟨Int32.le_toInt _, Int32.toInt_lt _⟩, fun K => ?_⟩
  unfold zScr
  rw [w32_of (by omega) (by omega), if_pos ⟨h0, h1⟩]
section LB
variable {N : Nat} {xs : Nat → Int32} {n : Nat} {v4 x1 x2 x3 x4 x5 : Int} {μ : ZMem}
abbrev kOne : ZMem → Option ZRes := fun μ2 => some (.inr (some (zI 1)), μ2)
abbrev kGo (N : Nat) (xs : Nat → Int32) (n : Nat) (v4 : Int) : ZMem → Option ZRes := fun μ => zLet (v4 + 6) (fun x => L_Law N xs kOne n x μ)
abbrev kNo : ZMem → Option ZRes := fun μ => some (.inr (some (zI 0)), μ)
end LB
theorem lw_loop {N : Nat} {xs : Nat → Int32} (hN : N ≤ 3072) : ∀ (n j : Nat) (μ : ZMem), j + n = 513 → 1 ≤ n → Zl μ → ∃ μ', L_Law N xs kOne n (6 * (j : Int)) μ = some (.inr (some (zI 1)), μ')
  | 0, j, μ, hj, hn, Z => by omega
  | n + 1, j, μ, hj, hn, Z => by
    rw [L_Law, w32_of (a := (N : Int) - 6) (by omega) (by omega), w32_of (a := 6 * (j : Int)) (by omega) (by omega)]
    by_cases g : (N : Int) - 6 < 6 * (j : Int)
    · rw [if_pos g]
      exact ⟨μ, rfl⟩
    rw [if_neg g]
    have next : ∀ μ', Zl μ' → ∃ μ2, kGo N xs n (6 * (j : Int)) μ' = some (.inr (some (zI 1)), μ2) := fun μ' Z' => by
      obtain ⟨μ2, h2⟩ := lw_loop hN n (j + 1) μ' (by omega) (by omega) Z'
      refine ⟨μ2, ?_⟩
      rw [show 6 * ((j + 1 : Nat) : Int) = 6 * (j : Int) + 6 by omega] at h2
      exact h2
    obtain ⟨x0, -, s0⟩ := zScr_ok (N := N) (xs := xs) (i := 6 * (j : Int)) (by omega) (by omega) hN
    obtain ⟨x1, hx1, s1⟩ := zScr_ok (N := N) (xs := xs) (i := 6 * (j : Int) + 1) (by omega) (by omega) hN
    obtain ⟨x2, hx2, s2⟩ := zScr_ok (N := N) (xs := xs) (i := 6 * (j : Int) + 2) (by omega) (by omega) hN
    obtain ⟨x3, hx3, s3⟩ := zScr_ok (N := N) (xs := xs) (i := 6 * (j : Int) + 3) (by omega) (by omega) hN
    obtain ⟨x4, hx4, s4⟩ := zScr_ok (N := N) (xs := xs) (i := 6 * (j : Int) + 4) (by omega) (by omega) hN
    obtain ⟨x5, hx5, s5⟩ := zScr_ok (N := N) (xs := xs) (i := 6 * (j : Int) + 5) (by omega) (by omega) hN
    rw [s0]
    by_cases c0 : w32 (zand x0 63) = 0
    · rw [if_pos c0]
      simp only [s1, s2, s3, s4, s5]
      obtain ⟨μ', Z', e⟩ := lw_AI (C := kGo N xs n (6 * (j : Int))) (D := kNo) (Fc := F_Ledger_feed x1 x2 x3 x4 x5) (Fm := F_Model_feed x1 x2 x3 x4 x5) (fun m dl a κ μ h => act_feed h) (fun _ => tyI_F_Model_feed) Z
      obtain ⟨μ2, h2⟩ := next μ' Z'
      exact ⟨μ2, e.trans h2⟩
    rw [if_neg c0]
    by_cases c1 : w32 (zand x0 63) = 1
    · rw [if_pos c1]
      simp only [s1]
      obtain ⟨μ', Z', e⟩ := lw_AI (C := kGo N xs n (6 * (j : Int))) (D := kNo) (Fc := F_Ledger_end x1) (Fm := F_Model_end x1) (fun m dl a κ μ h => act_end h hx1) (fun _ => tyI_F_Model_end) Z
      obtain ⟨μ2, h2⟩ := next μ' Z'
      exact ⟨μ2, e.trans h2⟩
    rw [if_neg c1]
    by_cases c2 : w32 (zand x0 63) = 2
    · rw [if_pos c2]
      obtain ⟨μ', Z', e⟩ := lw_CI (C := kGo N xs n (6 * (j : Int))) (D := kNo) (Fc := F_Ledger_fund) (Fm := F_Model_fund) (FL := F_Law_fund) (fun m dl a κ μ h => act_fund h) (fun _ => tyI_F_Model_fund) (fun _ => rfl) Z
      obtain ⟨μ2, h2⟩ := next μ' Z'
      exact ⟨μ2, e.trans h2⟩
    rw [if_neg c2]
    by_cases c3 : w32 (zand x0 63) = 3
    · rw [if_pos c3]
      obtain ⟨μ', Z', e⟩ := lw_CI (C := kGo N xs n (6 * (j : Int))) (D := kNo) (Fc := F_Ledger_acts) (Fm := F_Model_acts_w2) (FL := F_Law_acts) (fun m dl a κ μ h => act_acts h) (fun _ => tyI_F_Model_acts_w2) (fun _ => rfl) Z
      obtain ⟨μ2, h2⟩ := next μ' Z'
      exact ⟨μ2, e.trans h2⟩
    rw [if_neg c3]
    by_cases c4 : w32 (zand x0 63) = 4
    · rw [if_pos c4]
      obtain ⟨μ', Z', e⟩ := lw_AI (C := kGo N xs n (6 * (j : Int))) (D := kNo) (Fc := F_Ledger_fault) (Fm := F_Model_fault) (fun m dl a κ μ h => act_fault h) (fun _ => tyI_F_Model_fault) Z
      obtain ⟨μ2, h2⟩ := next μ' Z'
      exact ⟨μ2, e.trans h2⟩
    rw [if_neg c4]
    by_cases c5 : w32 (zand x0 63) = 5
    · rw [if_pos c5]
      simp only [s1]
      obtain ⟨μ', Z', e⟩ := lw_CI (C := kGo N xs n (6 * (j : Int))) (D := kNo) (Fc := F_Ledger_term x1) (Fm := F_Model_term x1) (FL := F_Law_term x1) (fun m dl a κ μ h => (face_term h.1 hx1).step h) (fun _ => tyI_F_Model_term) (fun _ => rfl) Z
      obtain ⟨μ2, h2⟩ := next μ' Z'
      exact ⟨μ2, e.trans h2⟩
    rw [if_neg c5]
    by_cases c6 : w32 (zand x0 63) = 6
    · rw [if_pos c6]
      simp only [s1, s2]
      obtain ⟨μ', Z', e⟩ := lw_CJ (C := kGo N xs n (6 * (j : Int))) (D := kNo) (Fc := F_Ledger_investor x1 x2) (Fm := F_Model_investor x1 x2) (FL := F_Law_investor x1 x2) (fun m dl a κ μ h => (face_investor h.1 hx1 hx2).step h) (fun _ => tyJ_F_Model_investor) (fun _ => rfl) Z
      obtain ⟨μ2, h2⟩ := next μ' Z'
      exact ⟨μ2, e.trans h2⟩
    rw [if_neg c6]
    by_cases c7 : w32 (zand x0 63) = 7
    · rw [if_pos c7]
      simp only [s1, s2]
      obtain ⟨μ', Z', e⟩ := lw_CI (C := kGo N xs n (6 * (j : Int))) (D := kNo) (Fc := F_Ledger_deal x1 x2) (Fm := F_Model_deal x1 x2) (FL := F_Law_deal x1 x2) (fun m dl a κ μ h => (face_deal h.1 hx1 hx2).step h) (fun _ => tyI_F_Model_deal) (fun _ => rfl) Z
      obtain ⟨μ2, h2⟩ := next μ' Z'
      exact ⟨μ2, e.trans h2⟩
    rw [if_neg c7]
    by_cases c8 : w32 (zand x0 63) = 8
    · rw [if_pos c8]
      simp only [s1, s2]
      obtain ⟨μ', Z', e⟩ := lw_CJ (C := kGo N xs n (6 * (j : Int))) (D := kNo) (Fc := F_Ledger_ladder x1 x2) (Fm := F_Model_ladder x1 x2) (FL := F_Law_ladder x1 x2) (fun m dl a κ μ h => (face_ladder h.1 hx1 hx2).step h) (fun _ => tyJ_F_Model_ladder) (fun _ => rfl) Z
      obtain ⟨μ2, h2⟩ := next μ' Z'
      exact ⟨μ2, e.trans h2⟩
    rw [if_neg c8]
    by_cases c9 : w32 (zand x0 63) = 9
    · rw [if_pos c9]
      simp only [s1]
      obtain ⟨μ', Z', e⟩ := lw_CJ (C := kGo N xs n (6 * (j : Int))) (D := kNo) (Fc := F_Ledger_manager x1) (Fm := F_Model_manager x1) (FL := F_Law_manager x1) (fun m dl a κ μ h => (face_manager h.1 hx1).step h) (fun _ => tyJ_F_Model_manager) (fun _ => rfl) Z
      obtain ⟨μ2, h2⟩ := next μ' Z'
      exact ⟨μ2, e.trans h2⟩
    rw [if_neg c9]
    by_cases c10 : w32 (zand x0 63) = 10
    · rw [if_pos c10]
      simp only [s1, s2]
      obtain ⟨μ', Z', e⟩ := lw_CI (C := kGo N xs n (6 * (j : Int))) (D := kNo) (Fc := F_Ledger_call x1 x2) (Fm := F_Model_call x1 x2) (FL := F_Law_call x1 x2) (fun m dl a κ μ h => act_call h hx1 hx2) (fun _ => tyI_F_Model_call) (fun _ => rfl) Z
      obtain ⟨μ2, h2⟩ := next μ' Z'
      exact ⟨μ2, e.trans h2⟩
    rw [if_neg c10]
    by_cases c11 : w32 (zand x0 63) = 11
    · rw [if_pos c11]
      simp only [s1, s2, s3]
      by_cases hb : w32 x3 = 0
      · simp only [if_pos hb]
        obtain ⟨μ', Z', e⟩ := lw_CI (C := kGo N xs n (6 * (j : Int))) (D := kNo) (Fc := F_Ledger_sell x1 x2 0) (Fm := F_Model_sell x1 x2 0) (FL := F_Law_sell x1 x2 0) (fun m dl a κ μ h => act_sell h hx1 hx2 (Or.inl rfl)) (fun _ => tyI_F_Model_sell) (fun _ => rfl) Z
        obtain ⟨μ2, h2⟩ := next μ' Z'
        exact ⟨μ2, e.trans h2⟩
      · simp only [if_neg hb]
        obtain ⟨μ', Z', e⟩ := lw_CI (C := kGo N xs n (6 * (j : Int))) (D := kNo) (Fc := F_Ledger_sell x1 x2 1) (Fm := F_Model_sell x1 x2 1) (FL := F_Law_sell x1 x2 1) (fun m dl a κ μ h => act_sell h hx1 hx2 (Or.inr rfl)) (fun _ => tyI_F_Model_sell) (fun _ => rfl) Z
        obtain ⟨μ2, h2⟩ := next μ' Z'
        exact ⟨μ2, e.trans h2⟩
    rw [if_neg c11]
    by_cases c12 : w32 (zand x0 63) = 12
    · rw [if_pos c12]
      simp only [s1, s2]
      obtain ⟨μ', Z', e⟩ := lw_CI (C := kGo N xs n (6 * (j : Int))) (D := kNo) (Fc := F_Ledger_mark x1 x2) (Fm := F_Model_mark x1 x2) (FL := F_Law_mark x1 x2) (fun m dl a κ μ h => act_mark h hx1 hx2) (fun _ => tyI_F_Model_mark) (fun _ => rfl) Z
      obtain ⟨μ2, h2⟩ := next μ' Z'
      exact ⟨μ2, e.trans h2⟩
    rw [if_neg c12]
    by_cases c13 : w32 (zand x0 63) = 13
    · rw [if_pos c13]
      simp only [s1]
      obtain ⟨μ', Z', e⟩ := lw_CI (C := kGo N xs n (6 * (j : Int))) (D := kNo) (Fc := F_Ledger_quarters x1) (Fm := F_Model_quarters x1) (FL := F_Law_quarters x1) (fun m dl a κ μ h => act_quarters h hx1) (fun _ => tyI_F_Model_quarters) (fun _ => rfl) Z
      obtain ⟨μ2, h2⟩ := next μ' Z'
      exact ⟨μ2, e.trans h2⟩
    rw [if_neg c13]
    by_cases c14 : w32 (zand x0 63) = 14
    · rw [if_pos c14]
      simp only [s1]
      obtain ⟨μ', Z', e⟩ := lw_CI (C := kGo N xs n (6 * (j : Int))) (D := kNo) (Fc := F_Ledger_fail x1) (Fm := F_Model_fail x1) (FL := F_Law_fail x1) (fun m dl a κ μ h => act_fail h hx1) (fun _ => tyI_F_Model_fail) (fun _ => rfl) Z
      obtain ⟨μ2, h2⟩ := next μ' Z'
      exact ⟨μ2, e.trans h2⟩
    rw [if_neg c14]
    by_cases c15 : w32 (zand x0 63) = 15
    · rw [if_pos c15]
      simp only [s1, s2, s3]
      obtain ⟨μ', Z', e⟩ := lw_CI (C := kGo N xs n (6 * (j : Int))) (D := kNo) (Fc := F_Ledger_move x1 x2 x3) (Fm := F_Model_move x1 x2 x3) (FL := F_Law_move x1 x2 x3) (fun m dl a κ μ h => act_move h hx1 hx2 hx3) (fun _ => tyI_F_Model_move) (fun _ => rfl) Z
      obtain ⟨μ2, h2⟩ := next μ' Z'
      exact ⟨μ2, e.trans h2⟩
    rw [if_neg c15]
    by_cases c16 : w32 (zand x0 63) = 16
    · rw [if_pos c16]
      obtain ⟨μ', Z', e⟩ := lw_CJ (C := kGo N xs n (6 * (j : Int))) (D := kNo) (Fc := F_Ledger_close) (Fm := F_Model_close) (FL := F_Law_close) (fun m dl a κ μ h => act_close h) (fun _ => tyJ_F_Model_close) (fun _ => rfl) Z
      obtain ⟨μ2, h2⟩ := next μ' Z'
      exact ⟨μ2, e.trans h2⟩
    rw [if_neg c16]
    by_cases c17 : w32 (zand x0 63) = 17
    · rw [if_pos c17]
      obtain ⟨μ', Z', e⟩ := lw_CI (C := kGo N xs n (6 * (j : Int))) (D := kNo) (Fc := F_Ledger_undo) (Fm := F_Model_undo) (FL := F_Law_undo) (fun m dl a κ μ h => act_undo h) (fun _ => tyI_F_Model_undo) (fun _ => rfl) Z
      obtain ⟨μ2, h2⟩ := next μ' Z'
      exact ⟨μ2, e.trans h2⟩
    rw [if_neg c17]
    by_cases c18 : w32 (zand x0 63) = 18
    · rw [if_pos c18]
      simp only [s1, s2, s3]
      obtain ⟨μ', Z', e⟩ := lw_CJ (C := kGo N xs n (6 * (j : Int))) (D := kNo) (Fc := F_Ledger_filling x1 x2 x3) (Fm := F_Model_filling x1 x2 x3) (FL := F_Law_filling x1 x2 x3) (fun m dl a κ μ h => (face_filling h.1 hx1 hx2 hx3).step h) (fun _ => tyJ_F_Model_filling) (fun _ => rfl) Z
      obtain ⟨μ2, h2⟩ := next μ' Z'
      exact ⟨μ2, e.trans h2⟩
    rw [if_neg c18]
    by_cases c19 : w32 (zand x0 63) = 19
    · rw [if_pos c19]
      simp only [s1, s2]
      obtain ⟨μ', Z', e⟩ := lw_CI (C := kGo N xs n (6 * (j : Int))) (D := kNo) (Fc := F_Ledger_needed x1 x2) (Fm := F_Model_needed x1 x2) (FL := F_Law_needed x1 x2) (fun m dl a κ μ h => (face_needed h.1 hx1 hx2).step h) (fun _ => tyI_F_Model_needed) (fun _ => rfl) Z
      obtain ⟨μ2, h2⟩ := next μ' Z'
      exact ⟨μ2, e.trans h2⟩
    rw [if_neg c19]
    by_cases c20 : w32 (zand x0 63) = 20
    · rw [if_pos c20]
      simp only [s1, s2]
      obtain ⟨μ', Z', e⟩ := lw_CI (C := kGo N xs n (6 * (j : Int))) (D := kNo) (Fc := F_Ledger_reaches x1 x2) (Fm := F_Model_reaches x1 x2) (FL := F_Law_reaches x1 x2) (fun m dl a κ μ h => (face_reaches h.1 hx1 hx2).step h) (fun _ => tyI_F_Model_reaches) (fun _ => rfl) Z
      obtain ⟨μ2, h2⟩ := next μ' Z'
      exact ⟨μ2, e.trans h2⟩
    rw [if_neg c20]
    by_cases c21 : w32 (zand x0 63) = 21
    · rw [if_pos c21]
      simp only [s1, s2, s3]
      obtain ⟨μ', Z', e⟩ := lw_CI (C := kGo N xs n (6 * (j : Int))) (D := kNo) (Fc := F_Ledger_share x1 x2 x3) (Fm := F_Model_share x1 x2 x3) (FL := F_Law_share x1 x2 x3) (fun m dl a κ μ h => (face_share h.1 hx1 hx2 hx3).step h) (fun _ => tyI_F_Model_share) (fun _ => rfl) Z
      obtain ⟨μ2, h2⟩ := next μ' Z'
      exact ⟨μ2, e.trans h2⟩
    rw [if_neg c21]
    by_cases c22 : w32 (zand x0 63) = 22
    · rw [if_pos c22]
      obtain ⟨μ', Z', e⟩ := lw_AJ (C := kGo N xs n (6 * (j : Int))) (D := kNo) (Fc := F_Ledger_claw) (Fm := F_Model_claw) (fun m dl a κ μ h => (face_claw h.1).step h) (fun _ => tyJ_F_Model_claw) Z
      obtain ⟨μ2, h2⟩ := next μ' Z'
      exact ⟨μ2, e.trans h2⟩
    rw [if_neg c22]
    by_cases c23 : w32 (zand x0 63) = 23
    · rw [if_pos c23]
      simp only [s1]
      obtain ⟨μ', Z', e⟩ := lw_CJ (C := kGo N xs n (6 * (j : Int))) (D := kNo) (Fc := F_Ledger_soldOut x1) (Fm := F_Model_soldOut x1) (FL := F_Law_soldOut x1) (fun m dl a κ μ h => (face_soldOut h.1 hx1).step h) (fun _ => tyJ_F_Model_soldOut) (fun _ => rfl) Z
      obtain ⟨μ2, h2⟩ := next μ' Z'
      exact ⟨μ2, e.trans h2⟩
    rw [if_neg c23]
    by_cases c24 : w32 (zand x0 63) = 24
    · rw [if_pos c24]
      simp only [s1]
      obtain ⟨μ', Z', e⟩ := lw_AJ (C := kGo N xs n (6 * (j : Int))) (D := kNo) (Fc := F_Ledger_order x1) (Fm := F_Model_order x1) (fun m dl a κ μ h => (face_order h.1 hx1).step h) (fun _ => tyJ_F_Model_order) Z
      obtain ⟨μ2, h2⟩ := next μ' Z'
      exact ⟨μ2, e.trans h2⟩
    rw [if_neg c24]
    by_cases c25 : w32 (zand x0 63) = 25
    · rw [if_pos c25]
      simp only [s1, s2]
      obtain ⟨μ', Z', e⟩ := lw_CJ (C := kGo N xs n (6 * (j : Int))) (D := kNo) (Fc := F_Ledger_would x1 x2) (Fm := F_Model_would x1 x2) (FL := F_Law_would x1 x2) (fun m dl a κ μ h => (face_would h.1 h.2.1 hx1 hx2).step h) (fun _ => tyJ_F_Model_would) (fun _ => rfl) Z
      obtain ⟨μ2, h2⟩ := next μ' Z'
      exact ⟨μ2, e.trans h2⟩
    rw [if_neg c25]
    by_cases c26 : w32 (zand x0 63) = 26
    · rw [if_pos c26]
      simp only [s1]
      obtain ⟨μ', Z', e⟩ := lw_CI (C := kGo N xs n (6 * (j : Int))) (D := kNo) (Fc := F_Ledger_bar x1) (Fm := F_Model_bar x1) (FL := F_Law_bar x1) (fun m dl a κ μ h => (face_bar h.1 h.2.1 hx1).step h) (fun _ => tyI_F_Model_bar) (fun _ => rfl) Z
      obtain ⟨μ2, h2⟩ := next μ' Z'
      exact ⟨μ2, e.trans h2⟩
    rw [if_neg c26]
    by_cases c27 : w32 (zand x0 63) = 27
    · rw [if_pos c27]
      simp only [s1]
      obtain ⟨μ', Z', e⟩ := lw_CJ (C := kGo N xs n (6 * (j : Int))) (D := kNo) (Fc := F_Ledger_drift x1) (Fm := F_Model_drift x1) (FL := F_Law_drift x1) (fun m dl a κ μ h => (face_drift h.1 hx1).step h) (fun _ => tyJ_F_Model_drift) (fun _ => rfl) Z
      obtain ⟨μ2, h2⟩ := next μ' Z'
      exact ⟨μ2, e.trans h2⟩
    rw [if_neg c27]
    by_cases c28 : w32 (zand x0 63) = 28
    · rw [if_pos c28]
      simp only [s1]
      obtain ⟨μ', Z', e⟩ := lw_CJ (C := kGo N xs n (6 * (j : Int))) (D := kNo) (Fc := F_Ledger_swapped x1) (Fm := F_Model_swapped x1) (FL := F_Law_swapped x1) (fun m dl a κ μ h => (face_swapped h.1 hx1).step h) (fun _ => tyJ_F_Model_swapped) (fun _ => rfl) Z
      obtain ⟨μ2, h2⟩ := next μ' Z'
      exact ⟨μ2, e.trans h2⟩
    rw [if_neg c28]
    by_cases c29 : w32 (zand x0 63) = 29
    · rw [if_pos c29]
      simp only [s1]
      obtain ⟨μ', Z', e⟩ := lw_CJ (C := kGo N xs n (6 * (j : Int))) (D := kNo) (Fc := F_Ledger_without x1) (Fm := F_Model_without x1) (FL := F_Law_without x1) (fun m dl a κ μ h => (face_without h.1 hx1).step h) (fun _ => tyJ_F_Model_without) (fun _ => rfl) Z
      obtain ⟨μ2, h2⟩ := next μ' Z'
      exact ⟨μ2, e.trans h2⟩
    rw [if_neg c29]
    by_cases c30 : w32 (zand x0 63) = 30
    · rw [if_pos c30]
      simp only [s1, s2]
      obtain ⟨μ', Z', e⟩ := lw_CJ (C := kGo N xs n (6 * (j : Int))) (D := kNo) (Fc := F_Ledger_behind x1 x2) (Fm := F_Model_behind x1 x2) (FL := F_Law_behind x1 x2) (fun m dl a κ μ h => (face_behind h.1 hx1 hx2).step h) (fun _ => tyJ_F_Model_behind) (fun _ => rfl) Z
      obtain ⟨μ2, h2⟩ := next μ' Z'
      exact ⟨μ2, e.trans h2⟩
    rw [if_neg c30]
    by_cases c31 : w32 (zand x0 63) = 31
    · rw [if_pos c31]
      obtain ⟨μ', Z', e⟩ := lw_AI (C := kGo N xs n (6 * (j : Int))) (D := kNo) (Fc := F_Ledger_clean) (Fm := F_Model_clean) (fun m dl a κ μ h => (face_clean h.1 h.2.1).step h) (fun _ => tyI_F_Model_clean) Z
      obtain ⟨μ2, h2⟩ := next μ' Z'
      exact ⟨μ2, e.trans h2⟩
    rw [if_neg c31]
    by_cases c32 : w32 (zand x0 63) = 32
    · rw [if_pos c32]
      obtain ⟨μ', Z', e⟩ := lw_AI (C := kGo N xs n (6 * (j : Int))) (D := kNo) (Fc := F_Ledger_idle) (Fm := F_Model_idle) (fun m dl a κ μ h => (face_idle h.1).step h) (fun _ => tyI_F_Model_idle) Z
      obtain ⟨μ2, h2⟩ := next μ' Z'
      exact ⟨μ2, e.trans h2⟩
    rw [if_neg c32]
    by_cases c33 : w32 (zand x0 63) = 33
    · rw [if_pos c33]
      obtain ⟨μ', Z', e⟩ := lw_AI (C := kGo N xs n (6 * (j : Int))) (D := kNo) (Fc := F_Ledger_blame) (Fm := F_Model_blame) (fun m dl a κ μ h => (face_blame h.1).step h) (fun _ => tyI_F_Model_blame) Z
      obtain ⟨μ2, h2⟩ := next μ' Z'
      exact ⟨μ2, e.trans h2⟩
    rw [if_neg c33]
    by_cases c34 : w32 (zand x0 63) = 34
    · rw [if_pos c34]
      obtain ⟨μ', Z', e⟩ := lw_AJ (C := kGo N xs n (6 * (j : Int))) (D := kNo) (Fc := F_Ledger_most) (Fm := F_Model_most) (fun m dl a κ μ h => (face_most h.1).step h) (fun _ => tyJ_F_Model_most) Z
      obtain ⟨μ2, h2⟩ := next μ' Z'
      exact ⟨μ2, e.trans h2⟩
    rw [if_neg c34]
    by_cases c35 : w32 (zand x0 63) = 35
    · rw [if_pos c35]
      simp only [s1, s2]
      obtain ⟨μ', Z', e⟩ := lw_CJ (C := kGo N xs n (6 * (j : Int))) (D := kNo) (Fc := F_Ledger_owed x1 x2) (Fm := F_Model_owed x1 x2) (FL := F_Law_owed x1 x2) (fun m dl a κ μ h => (face_owed h.1 hx1 hx2).step h) (fun _ => tyJ_F_Model_owed) (fun _ => rfl) Z
      obtain ⟨μ2, h2⟩ := next μ' Z'
      exact ⟨μ2, e.trans h2⟩
    rw [if_neg c35]
    by_cases c36 : w32 (zand x0 63) = 36
    · rw [if_pos c36]
      simp only [s1]
      obtain ⟨μ', Z', e⟩ := lw_CI (C := kGo N xs n (6 * (j : Int))) (D := kNo) (Fc := F_Ledger_patience x1) (Fm := F_Model_patience x1) (FL := F_Law_patience x1) (fun m dl a κ μ h => (face_patience h.1 hx1).step h) (fun _ => tyI_F_Model_patience) (fun _ => rfl) Z
      obtain ⟨μ2, h2⟩ := next μ' Z'
      exact ⟨μ2, e.trans h2⟩
    rw [if_neg c36]
    by_cases c37 : w32 (zand x0 63) = 37
    · rw [if_pos c37]
      simp only [s1]
      obtain ⟨μ', Z', e⟩ := lw_CI (C := kGo N xs n (6 * (j : Int))) (D := kNo) (Fc := F_Ledger_deals x1) (Fm := F_Model_deals x1) (FL := F_Law_deals x1) (fun m dl a κ μ h => (face_deals h.1 hx1).step h) (fun _ => tyI_F_Model_deals) (fun _ => rfl) Z
      obtain ⟨μ2, h2⟩ := next μ' Z'
      exact ⟨μ2, e.trans h2⟩
    rw [if_neg c37]
    by_cases c38 : w32 (zand x0 63) = 38
    · rw [if_pos c38]
      simp only [s1]
      obtain ⟨μ', Z', e⟩ := lw_CJ (C := kGo N xs n (6 * (j : Int))) (D := kNo) (Fc := F_Ledger_curve x1) (Fm := F_Model_curve x1) (FL := F_Law_curve x1) (fun m dl a κ μ h => (face_curve h.1 hx1).step h) (fun _ => tyJ_F_Model_curve) (fun _ => rfl) Z
      obtain ⟨μ2, h2⟩ := next μ' Z'
      exact ⟨μ2, e.trans h2⟩
    rw [if_neg c38]
    by_cases c39 : w32 (zand x0 63) = 39
    · rw [if_pos c39]
      simp only [s1]
      obtain ⟨μ', Z', e⟩ := lw_CI (C := kGo N xs n (6 * (j : Int))) (D := kNo) (Fc := F_Ledger_curves x1) (Fm := F_Model_curves x1) (FL := F_Law_curves x1) (fun m dl a κ μ h => (face_curves h.1 hx1).step h) (fun _ => tyI_F_Model_curves) (fun _ => rfl) Z
      obtain ⟨μ2, h2⟩ := next μ' Z'
      exact ⟨μ2, e.trans h2⟩
    rw [if_neg c39]
    by_cases c40 : w32 (zand x0 63) = 40
    · rw [if_pos c40]
      simp only [s1]
      obtain ⟨μ', Z', e⟩ := lw_CI (C := kGo N xs n (6 * (j : Int))) (D := kNo) (Fc := F_Ledger_rate x1) (Fm := F_Model_rate x1) (FL := F_Law_rate x1) (fun m dl a κ μ h => (face_rate h.1 hx1).step h) (fun _ => tyI_F_Model_rate) (fun _ => rfl) Z
      obtain ⟨μ2, h2⟩ := next μ' Z'
      exact ⟨μ2, e.trans h2⟩
    rw [if_neg c40]
    by_cases c41 : w32 (zand x0 63) = 41
    · rw [if_pos c41]
      simp only [s1]
      obtain ⟨μ', Z', e⟩ := lw_CI (C := kGo N xs n (6 * (j : Int))) (D := kNo) (Fc := F_Ledger_multiple x1) (Fm := F_Model_multiple x1) (FL := F_Law_multiple x1) (fun m dl a κ μ h => (face_multiple h.1 hx1).step h) (fun _ => tyI_F_Model_multiple) (fun _ => rfl) Z
      obtain ⟨μ2, h2⟩ := next μ' Z'
      exact ⟨μ2, e.trans h2⟩
    rw [if_neg c41]
    by_cases c42 : w32 (zand x0 63) = 42
    · rw [if_pos c42]
      simp only [s1, s2]
      obtain ⟨μ', Z', e⟩ := lw_CI (C := kGo N xs n (6 * (j : Int))) (D := kNo) (Fc := F_Ledger_act x1 x2) (Fm := F_Model_act x1 x2) (FL := F_Law_act x1 x2) (fun m dl a κ μ h => (face_act h.1 hx1 hx2).step h) (fun _ => tyI_F_Model_act) (fun _ => rfl) Z
      obtain ⟨μ2, h2⟩ := next μ' Z'
      exact ⟨μ2, e.trans h2⟩
    rw [if_neg c42]
    by_cases c43 : w32 (zand x0 63) = 43
    · rw [if_pos c43]
      obtain ⟨μ', Z', e⟩ := lw_V (C := kGo N xs n (6 * (j : Int))) (Fc := F_Ledger_image) (Fm := F_Model_image) (fun m dl a κ μ h => act_image h) Z
      obtain ⟨μ2, h2⟩ := next μ' Z'
      exact ⟨μ2, e.trans h2⟩
    rw [if_neg c43]
    by_cases c44 : w32 (zand x0 63) = 44
    · rw [if_pos c44]
      obtain ⟨μ', Z', e⟩ := lw_AI (C := kGo N xs n (6 * (j : Int))) (D := kNo) (Fc := F_Ledger_back) (Fm := F_Model_back) (fun m dl a κ μ h => act_back h) (fun _ => tyI_F_Model_back) Z
      obtain ⟨μ2, h2⟩ := next μ' Z'
      exact ⟨μ2, e.trans h2⟩
    rw [if_neg c44]
    by_cases c45 : w32 (zand x0 63) = 45
    · rw [if_pos c45]
      simp only [s1]
      obtain ⟨μ', Z', e⟩ := lw_AI (C := kGo N xs n (6 * (j : Int))) (D := kNo) (Fc := F_Ledger_count x1) (Fm := F_Model_count x1) (fun m dl a κ μ h => (face_count h.1 hx1).step h) (fun _ => tyI_F_Model_count) Z
      obtain ⟨μ2, h2⟩ := next μ' Z'
      exact ⟨μ2, e.trans h2⟩
    rw [if_neg c45]
    exact next μ Z
