/-! ===== the acts, as they are called ===== -/
abbrev csA : List (String × Int) := [(eIOB, 1), (eIAE, 2), (eISE, 3), (eUOE, 4)]
section GC
variable {m dl a : Nat} {κ μ : ZMem} {x y z : Int} {tm s : Int → Int}
theorem zC_Xo {E : String} {ν : ZMem} {K : Option ZV → ZMem → Option ZRes} : zC (some (.inl E, ν)) K zXo = some (.inl E, ν) := Eq.trans rfl rfl
theorem act_call (h : z_all m dl a κ μ) (hx : q_i32 x) (hy : q_i32 y) : z_step csA (F_Ledger_call x y κ) (F_Model_call x y μ) := by
  obtain ⟨hf, h6, hdl, ht, ⟨m5, m6, m11, ha⟩, ⟨k3, k4, k11⟩, hi, hq, hs⟩ := h.1.all
  obtain ⟨y1, y2⟩ := hy
  by_cases gx : 0 ≤ x ∧ x < dl
  · have e1 := kY_deal (κ := κ) k4 hdl gx.1 gx.2
    have e2 := mY_deal (μ := μ) m6 hdl gx.1 gx.2
    by_cases gy : 1 ≤ y ∧ y ≤ 9999
    · have ei : F_Model_isIn (w32 y) 1 9999 μ = some (.inr (some (zI 1)), μ) := by rw [w32_of y1 y2]; exact z_isInY gy.1 gy.2 (by decide) (by decide)
      have rc : F_Ledger_call x y κ = zC (F_Ledger_done 0 x y (-1) κ) (zkJ (fun x4 μ3 => some (.inr (some (zI x4)), μ3))) zXo := by
        unfold F_Ledger_call
        rw [e1, zC_I, w32_of (a := 1) (by decide) (by decide), if_neg (by decide), w32_of y1 y2, if_neg (by omega), w32_of (a := 9999) (by decide) (by decide), if_pos (by omega)]
      have rm : F_Model_call x y μ = zC (F_Model_acts 0 x y (-1) 3 (zUp μ 0 0 0)) (zkI (fun x5 μ4 => if w32 x5 = 0 then (some (.inr (some (zI 0)), μ4)) else (zC (F_Model_uncalled (-1) μ4) (zkJ (fun x7 μ6 => some (.inr (some (zI x7)), μ6))) zX0))) zX0 := by
        unfold F_Model_call J_Model_call_30
        rw [e2, zC_I, w32_of (a := 1) (by decide) (by decide), if_neg (by decide), ei, zC_I, w32_of (a := 1) (by decide) (by decide), if_neg (by decide), zLet_eq, zUp_at, q_up_at, w32_of (a := 0) (by decide) (by decide), if_pos rfl]
      rcases z_done (h.up0 0) (kd := 0) (who := x) (sum := y) (ot := -1) (code := 3) ⟨by decide, fun _ => gx, fun q => by omega, fun q => by omega, by omega, fun q => by omega, fun q => by omega, fun _ => rfl⟩ (by decide) (by decide) with ⟨g1, g2⟩ | ⟨g1, g2⟩ | ⟨-, κ', μ', g1, g2, A, h0, h5, h4⟩
      · rw [g1, zC_Xo] at rc
        rw [g2, zC_I, w32_of (a := 0) (by decide) (by decide), if_pos rfl, zUp_00] at rm
        exact z_step.th h rc rm (by decide) (by decide +kernel)
      · rw [g1, zC_Xo] at rc
        rw [g2, zC_I, w32_of (a := 0) (by decide) (by decide), if_pos rfl, zUp_00] at rm
        exact z_step.th h rc rm (by decide) (by decide +kernel)
      · rw [g1, zC_J] at rc
        rw [g2, zC_I, w32_of (a := 1) (by decide) (by decide), if_neg (by decide), m_uncalled (m := m) A.1.1.row.2.1 h6 (by decide) (by decide), zC_J] at rm
        refine z_step.ok rc ?_ A h0
        rw [rm]
        have : q_sm (q_wp (μ' 4) (μ' 5) (-1)) m = q_an m (zUp μ 0 0 0 2) (zUp μ 0 0 0 4) 0 x y (-1) (q_run m (zUp μ 0 0 0 2) (zUp μ 0 0 0 4) (zUp μ 0 0 0 3) (zUp μ 0 0 0 8) a) := by
          rw [h5]
          unfold q_an
          rw [if_pos rfl]
          refine q_sm_congr (fun i _ => ?_)
          unfold q_wp
          exact if_neg (fun q => q.1 rfl)
        rw [this]
    · have ei : F_Model_isIn (w32 y) 1 9999 μ = some (.inr (some (zI 0)), μ) := by rw [w32_of y1 y2]; exact z_isInN (by omega) (by omega) (by omega) (by decide) (by decide) (by decide) (by decide)
      refine z_step.th (v := zI 0) (E := eIAE) (n := 2) h ?_ ?_ (by decide) (by decide +kernel)
      · unfold F_Ledger_call J_Ledger_call_28
        rw [e1, zC_I, w32_of (a := 1) (by decide) (by decide), if_neg (by decide), w32_of y1 y2, w32_of (a := 9999) (by decide) (by decide)]
        by_cases g : y < 1
        · rw [if_pos g]
        · rw [if_neg g, if_neg (by omega)]
      · unfold F_Model_call J_Model_call_30
        rw [e2, zC_I, w32_of (a := 1) (by decide) (by decide), if_neg (by decide), ei, zC_I, w32_of (a := 0) (by decide) (by decide), if_pos rfl, zLet_eq, zUp_at, q_up_at, w32_of (a := 2) (by decide) (by decide), if_neg (by decide)]
  · have e1 := kN_deal (κ := κ) k4 hdl hx (by omega)
    have e2 := mN_deal (μ := μ) m6 hdl hx (by omega)
    refine z_step.th (v := zI 0) (E := eIOB) (n := 1) h ?_ ?_ (by decide) (by decide +kernel)
    · unfold F_Ledger_call
      rw [e1, zC_I, w32_of (a := 0) (by decide) (by decide), if_pos rfl]
    · unfold F_Model_call J_Model_call_30
      rw [e2, zC_I, w32_of (a := 0) (by decide) (by decide), if_pos rfl, zLet_eq, zUp_at, q_up_at, w32_of (a := 1) (by decide) (by decide), if_neg (by decide)]
theorem q_sb_86 {d sum last : Int} (d0 : 0 ≤ d) (d1 : d < 6) : q_sb tm d sum last s 86 = s 86 + q_slM tm d sum s := by
  have e1 : q_sl1 d sum s 86 = s 86 := q_up_ne (by omega)
  have e2 : q_sl2 tm d sum s 86 = s 86 := by
    unfold q_sl2
    split
    · unfold q_fl
      rw [if_neg (by omega), if_neg (by decide), if_neg (by omega), if_neg (by decide), if_neg (by omega), if_neg (by omega), if_neg (by omega), if_neg (by decide), if_neg (by omega), if_neg (by decide), if_neg (by omega), if_neg (by omega)]
      exact e1
    · unfold q_fl
      rw [if_neg (by omega), if_neg (by decide), if_neg (by omega), if_neg (by decide), if_neg (by omega), if_neg (by omega)]
      exact e1
  have e3 : q_sl3 tm (q_slM tm d sum s) (q_sl2 tm d sum s) 86 = s 86 + q_slM tm d sum s := by
    unfold q_sl3
    rw [if_pos rfl, e2]
  unfold q_sb
  split
  · exact e3
  · unfold q_sl4
    rw [if_neg (by omega), if_neg (by decide), if_neg (by decide), if_neg (by omega), if_neg (by omega)]
    exact e3
theorem act_sell (h : z_all m dl a κ μ) (hx : q_i32 x) (hy : q_i32 y) (hz : z = 0 ∨ z = 1) : z_step csA (F_Ledger_sell x y z κ) (F_Model_sell x y z μ) := by
  obtain ⟨hf, h6, hdl, ht, ⟨m5, m6, m11, ha⟩, ⟨k3, k4, k11⟩, hi, hq, hs⟩ := h.1.all
  obtain ⟨y1, y2⟩ := hy
  have q2 := h.1.1.row.2.2.2.2.2.1
  by_cases gx : 0 ≤ x ∧ x < dl
  · have e1 := kY_deal (κ := κ) k4 hdl gx.1 gx.2
    have e2 := mY_deal (μ := μ) m6 hdl gx.1 gx.2
    by_cases gy : 0 ≤ y ∧ y ≤ 9999
    · have ei : F_Model_isIn (w32 y) 0 9999 μ = some (.inr (some (zI 1)), μ) := by rw [w32_of y1 y2]; exact z_isInY gy.1 gy.2 (by decide) (by decide)
      have rc : F_Ledger_sell x y z κ = zC (F_Ledger_done (z + 1) x y (-1) κ) (zkJ (fun x4 μ3 => some (.inr (some (zI x4)), μ3))) zXo := by
        unfold F_Ledger_sell J_Ledger_sell_45
        rw [e1, zC_I, w32_of (a := 1) (by decide) (by decide), if_neg (by decide), w32_of y1 y2, if_neg (by omega), w32_of (a := 9999) (by decide) (by decide), if_pos (by omega), w32_of (a := z) (by omega) (by omega)]
        rcases hz with rfl | rfl
        · rw [if_pos rfl]; rfl
        · rw [if_neg (by decide)]; rfl
      have rm : F_Model_sell x y z μ = zC (F_Model_acts (z + 1) x y (-1) 3 (zUp μ 0 0 0)) (zkI (fun x6 μ5 => if w32 x6 = 0 then (some (.inr (some (zI 0)), μ5)) else (zRd μ5 5 92 86 (fun x7 => some (.inr (some (zI (x7 - μ 5 86))), μ5))))) zX0 := by
        unfold F_Model_sell J_Model_sell_30 J_Model_sell_59
        rw [e2, zC_I, w32_of (a := 1) (by decide) (by decide), if_neg (by decide), ei, zC_I, w32_of (a := 1) (by decide) (by decide), if_neg (by decide), zLet_eq, zRd_ok (by decide) (by decide) (by decide), zUp_at, q_up_at, w32_of (a := 0) (by decide) (by decide), if_pos rfl, w32_of (a := z) (by omega) (by omega), zUp_ne (by decide)]
        rcases hz with rfl | rfl
        · rw [if_pos rfl]; rfl
        · rw [if_neg (by decide)]; rfl
      rcases z_done (h.up0 0) (kd := z + 1) (who := x) (sum := y) (ot := -1) (code := 3) ⟨by omega, fun _ => gx, fun q => by omega, fun q => by omega, by omega, fun q => by omega, fun q => by omega, fun _ => rfl⟩ (by decide) (by decide) with ⟨g1, g2⟩ | ⟨g1, g2⟩ | ⟨-, κ', μ', g1, g2, A, h0, h5, h4⟩
      · rw [g1, zC_Xo] at rc
        rw [g2, zC_I, w32_of (a := 0) (by decide) (by decide), if_pos rfl, zUp_00] at rm
        exact z_step.th h rc rm (by decide) (by decide +kernel)
      · rw [g1, zC_Xo] at rc
        rw [g2, zC_I, w32_of (a := 0) (by decide) (by decide), if_pos rfl, zUp_00] at rm
        exact z_step.th h rc rm (by decide) (by decide +kernel)
      · rw [g1, zC_J] at rc
        rw [g2, zC_I, w32_of (a := 1) (by decide) (by decide), if_neg (by decide), zRd_ok (by decide) (by decide) (by decide)] at rm
        refine z_step.ok rc ?_ A h0
        rw [rm, zUp_ne (by decide), zUp_ne (by decide), zUp_ne (by decide), zUp_ne (by decide)]
        rw [zUp_ne (by decide), zUp_ne (by decide), zUp_ne (by decide), zUp_ne (by decide)] at h5
        have e86 : ∀ last, (q_sell m (μ 2) (μ 4) x y last (q_run m (μ 2) (μ 4) (μ 3) (μ 8) a)).1 86 = μ 5 86 + q_slM (μ 2) x y (μ 5) := fun last => by
          show q_gt m _ (q_sb (μ 2) x y last (q_run m (μ 2) (μ 4) (μ 3) (μ 8) a).1) 86 = _
          rw [q_gt_ne (by omega), q_sb_86 gx.1 (by omega), ← q2]
        have ean : μ' 5 86 - μ 5 86 = q_an m (μ 2) (μ 4) (z + 1) x y (-1) (q_run m (μ 2) (μ 4) (μ 3) (μ 8) a) := by
          rw [h5]
          unfold q_an q_do
          rcases hz with rfl | rfl
          · rw [if_neg (by decide), if_pos (by decide), if_neg (by decide), if_pos (by decide), e86, ← q2]; omega
          · rw [if_neg (by decide), if_neg (by decide), if_pos (by decide), if_neg (by decide), if_neg (by decide), if_pos (by decide), e86, ← q2]; omega
        rw [ean]
    · have ei : F_Model_isIn (w32 y) 0 9999 μ = some (.inr (some (zI 0)), μ) := by rw [w32_of y1 y2]; exact z_isInN (by omega) (by omega) (by omega) (by decide) (by decide) (by decide) (by decide)
      refine z_step.th (v := zI 0) (E := eIAE) (n := 2) h ?_ ?_ (by decide) (by decide +kernel)
      · unfold F_Ledger_sell J_Ledger_sell_27
        rw [e1, zC_I, w32_of (a := 1) (by decide) (by decide), if_neg (by decide), w32_of y1 y2, w32_of (a := 9999) (by decide) (by decide)]
        by_cases g : y < 0
        · rw [if_pos g]
        · rw [if_neg g, if_neg (by omega)]
      · unfold F_Model_sell J_Model_sell_30
        rw [e2, zC_I, w32_of (a := 1) (by decide) (by decide), if_neg (by decide), ei, zC_I, w32_of (a := 0) (by decide) (by decide), if_pos rfl, zLet_eq, zRd_ok (by decide) (by decide) (by decide), zUp_at, q_up_at, w32_of (a := 2) (by decide) (by decide), if_neg (by decide)]
  · have e1 := kN_deal (κ := κ) k4 hdl hx (by omega)
    have e2 := mN_deal (μ := μ) m6 hdl hx (by omega)
    refine z_step.th (v := zI 0) (E := eIOB) (n := 1) h ?_ ?_ (by decide) (by decide +kernel)
    · unfold F_Ledger_sell
      rw [e1, zC_I, w32_of (a := 0) (by decide) (by decide), if_pos rfl]
    · unfold F_Model_sell J_Model_sell_30
      rw [e2, zC_I, w32_of (a := 0) (by decide) (by decide), if_pos rfl, zLet_eq, zRd_ok (by decide) (by decide) (by decide), zUp_at, q_up_at, w32_of (a := 1) (by decide) (by decide), if_neg (by decide)]
theorem act_mark (h : z_all m dl a κ μ) (hx : q_i32 x) (hy : q_i32 y) : z_step csA (F_Ledger_mark x y κ) (F_Model_mark x y μ) := by
  obtain ⟨hf, h6, hdl, ht, ⟨m5, m6, m11, ha⟩, ⟨k3, k4, k11⟩, hi, hq, hs⟩ := h.1.all
  obtain ⟨y1, y2⟩ := hy
  have q2 := h.1.1.row.2.2.2.2.2.1
  by_cases gx : 0 ≤ x ∧ x < dl
  · have e1 := kY_deal (κ := κ) k4 hdl gx.1 gx.2
    have e2 := mY_deal (μ := μ) m6 hdl gx.1 gx.2
    by_cases gy : 0 ≤ y ∧ y ≤ 9999
    · have ei : F_Model_isIn (w32 y) 0 9999 μ = some (.inr (some (zI 1)), μ) := by rw [w32_of y1 y2]; exact z_isInY gy.1 gy.2 (by decide) (by decide)
      have rc : F_Ledger_mark x y κ = zC (F_Ledger_done 3 x y (-1) κ) (zkJ (fun x4 μ3 => some (.inr (some (zI x4)), μ3))) zXo := by
        unfold F_Ledger_mark
        rw [e1, zC_I, w32_of (a := 1) (by decide) (by decide), if_neg (by decide), w32_of y1 y2, if_neg (by omega), w32_of (a := 9999) (by decide) (by decide), if_pos (by omega)]
      have rm : F_Model_mark x y μ = zC (F_Model_acts 3 x y (-1) 3 (zUp μ 0 0 0)) (zkI (fun x8 μ7 => if w32 x8 = 0 then (some (.inr (some (zI 0)), μ7)) else (some (.inr (some (zI (μ 5 (30 + 4 * x + 2)))), μ7)))) zX0 := by
        unfold F_Model_mark J_Model_mark_30
        rw [e2, zC_I, w32_of (a := 1) (by decide) (by decide), if_neg (by decide), ei, zC_I, w32_of (a := 1) (by decide) (by decide), if_neg (by decide), zLet_eq, zUp_at, q_up_at, w32_of (a := 0) (by decide) (by decide), if_pos (by decide), m_dealAt, zC_I, zRd_ok (by omega) (by omega) (by omega), zUp_ne (by decide)]
      rcases z_done (h.up0 0) (kd := 3) (who := x) (sum := y) (ot := -1) (code := 3) ⟨by decide, fun _ => gx, fun q => by omega, fun q => by omega, by omega, fun q => by omega, fun q => by omega, fun _ => rfl⟩ (by decide) (by decide) with ⟨g1, g2⟩ | ⟨g1, g2⟩ | ⟨-, κ', μ', g1, g2, A, h0, h5, h4⟩
      · rw [g1, zC_Xo] at rc
        rw [g2, zC_I, w32_of (a := 0) (by decide) (by decide), if_pos rfl, zUp_00] at rm
        exact z_step.th h rc rm (by decide) (by decide +kernel)
      · rw [g1, zC_Xo] at rc
        rw [g2, zC_I, w32_of (a := 0) (by decide) (by decide), if_pos rfl, zUp_00] at rm
        exact z_step.th h rc rm (by decide) (by decide +kernel)
      · rw [g1, zC_J] at rc
        rw [g2, zC_I, w32_of (a := 1) (by decide) (by decide), if_neg (by decide)] at rm
        refine z_step.ok rc ?_ A h0
        rw [rm, zUp_ne (by decide), zUp_ne (by decide), zUp_ne (by decide), zUp_ne (by decide)]
        unfold q_an
        rw [if_neg (by decide), if_neg (by decide), if_neg (by decide), if_pos rfl, ← q2]
    · have ei : F_Model_isIn (w32 y) 0 9999 μ = some (.inr (some (zI 0)), μ) := by rw [w32_of y1 y2]; exact z_isInN (by omega) (by omega) (by omega) (by decide) (by decide) (by decide) (by decide)
      refine z_step.th (v := zI 0) (E := eIAE) (n := 2) h ?_ ?_ (by decide) (by decide +kernel)
      · unfold F_Ledger_mark J_Ledger_mark_27
        rw [e1, zC_I, w32_of (a := 1) (by decide) (by decide), if_neg (by decide), w32_of y1 y2, w32_of (a := 9999) (by decide) (by decide)]
        by_cases g : y < 0
        · rw [if_pos g]
        · rw [if_neg g, if_neg (by omega)]
      · unfold F_Model_mark J_Model_mark_30
        rw [e2, zC_I, w32_of (a := 1) (by decide) (by decide), if_neg (by decide), ei, zC_I, w32_of (a := 0) (by decide) (by decide), if_pos rfl, zLet_eq, zUp_at, q_up_at, w32_of (a := 2) (by decide) (by decide), if_neg (by decide)]
  · have e1 := kN_deal (κ := κ) k4 hdl hx (by omega)
    have e2 := mN_deal (μ := μ) m6 hdl hx (by omega)
    refine z_step.th (v := zI 0) (E := eIOB) (n := 1) h ?_ ?_ (by decide) (by decide +kernel)
    · unfold F_Ledger_mark
      rw [e1, zC_I, w32_of (a := 0) (by decide) (by decide), if_pos rfl]
    · unfold F_Model_mark J_Model_mark_30
      rw [e2, zC_I, w32_of (a := 0) (by decide) (by decide), if_pos rfl, zLet_eq, zUp_at, q_up_at, w32_of (a := 1) (by decide) (by decide), if_neg (by decide)]
theorem act_quarters (h : z_all m dl a κ μ) (hx : q_i32 x) : z_step [(eIAE, 1), (eISE, 2), (eUOE, 3)] (F_Ledger_quarters x κ) (F_Model_quarters x μ) := by
  obtain ⟨hf, h6, hdl, ht, ⟨m5, m6, m11, ha⟩, ⟨k3, k4, k11⟩, hi, hq, hs⟩ := h.1.all
  obtain ⟨x1, x2⟩ := hx
  by_cases gx : 1 ≤ x ∧ x ≤ 60
  · have ei : F_Model_isIn (w32 x) 1 60 μ = some (.inr (some (zI 1)), μ) := by rw [w32_of x1 x2]; exact z_isInY gx.1 gx.2 (by decide) (by decide)
    have rc : F_Ledger_quarters x κ = zC (F_Ledger_done 4 (-1) x (-1) κ) (zkJ (fun x4 μ3 => some (.inr (some (zI x4)), μ3))) zXo := by
      unfold F_Ledger_quarters
      rw [w32_of x1 x2, w32_of (a := 1) (by decide) (by decide), if_neg (by omega), w32_of (a := 60) (by decide) (by decide), if_pos (by omega)]
    have rm : F_Model_quarters x μ = zC (F_Model_acts 4 (-1) x (-1) 2 (zUp μ 0 0 0)) (zkI (fun x5 μ4 => if w32 x5 = 0 then (some (.inr (some (zI 0)), μ4)) else (zRd μ4 5 92 90 (fun x6 => some (.inr (some (zI x6)), μ4))))) zX0 := by
      unfold F_Model_quarters J_Model_quarters_18
      rw [ei, zC_I, w32_of (a := 1) (by decide) (by decide), if_neg (by decide), zLet_eq, zUp_at, q_up_at, w32_of (a := 0) (by decide) (by decide), if_pos rfl]
    rcases z_done (h.up0 0) (kd := 4) (who := -1) (sum := x) (ot := -1) (code := 2) ⟨by decide, fun q => by omega, fun q => by omega, fun q => by omega, by omega, fun q => by omega, fun _ => rfl, fun _ => rfl⟩ (by decide) (by decide) with ⟨g1, g2⟩ | ⟨g1, g2⟩ | ⟨-, κ', μ', g1, g2, A, h0, h5, h4⟩
    · rw [g1, zC_Xo] at rc
      rw [g2, zC_I, w32_of (a := 0) (by decide) (by decide), if_pos rfl, zUp_00] at rm
      exact z_step.th h rc rm (by decide) (by decide +kernel)
    · rw [g1, zC_Xo] at rc
      rw [g2, zC_I, w32_of (a := 0) (by decide) (by decide), if_pos rfl, zUp_00] at rm
      exact z_step.th h rc rm (by decide) (by decide +kernel)
    · rw [g1, zC_J] at rc
      rw [g2, zC_I, w32_of (a := 1) (by decide) (by decide), if_neg (by decide), zRd_ok (by decide) (by decide) (by decide), h5] at rm
      refine z_step.ok rc ?_ A h0
      rw [rm]
      unfold q_an
      rw [if_neg (by decide), if_neg (by decide), if_neg (by decide), if_neg (by decide), if_pos rfl]
  · have ei : F_Model_isIn (w32 x) 1 60 μ = some (.inr (some (zI 0)), μ) := by rw [w32_of x1 x2]; exact z_isInN (by omega) (by omega) (by omega) (by decide) (by decide) (by decide) (by decide)
    refine z_step.th (v := zI 0) (E := eIAE) (n := 1) h ?_ ?_ (by decide) (by decide +kernel)
    · unfold F_Ledger_quarters J_Ledger_quarters_11
      rw [w32_of x1 x2, w32_of (a := 1) (by decide) (by decide), w32_of (a := 60) (by decide) (by decide)]
      by_cases g : x < 1
      · rw [if_pos g]
      · rw [if_neg g, if_neg (by omega)]
    · unfold F_Model_quarters J_Model_quarters_18
      rw [ei, zC_I, w32_of (a := 0) (by decide) (by decide), if_pos rfl, zLet_eq, zUp_at, q_up_at, w32_of (a := 1) (by decide) (by decide), if_neg (by decide)]
theorem act_fail (h : z_all m dl a κ μ) (hx : q_i32 x) : z_step [(eIOB, 1), (eISE, 2), (eUOE, 3)] (F_Ledger_fail x κ) (F_Model_fail x μ) := by
  obtain ⟨hf, h6, hdl, ht, ⟨m5, m6, m11, ha⟩, ⟨k3, k4, k11⟩, hi, hq, hs⟩ := h.1.all
  by_cases gx : 0 ≤ x ∧ x < m
  · have e1 := kY_inv (κ := κ) k3 h6 gx.1 gx.2
    have e2 := mY_inv (μ := μ) m5 h6 gx.1 gx.2
    have rc : F_Ledger_fail x κ = zC (F_Ledger_done 5 x 0 (-1) κ) (zkJ (fun x4 μ3 => some (.inr (some (zI x4)), μ3))) zXo := by
      unfold F_Ledger_fail
      rw [e1, zC_I, w32_of (a := 1) (by decide) (by decide), if_neg (by decide)]
    have rm : F_Model_fail x μ = zC (F_Model_acts 5 x 0 (-1) 2 (zUp μ 0 0 0)) (zkI (fun x5 μ4 => if w32 x5 = 0 then (some (.inr (some (zI 0)), μ4)) else (zC (F_Model_weightOf x μ4) (zkJ (fun x7 μ6 => some (.inr (some (zI x7)), μ6))) zX0))) zX0 := by
      unfold F_Model_fail J_Model_fail_14
      rw [e2, zC_I, w32_of (a := 1) (by decide) (by decide), if_neg (by decide), zLet_eq, zUp_at, q_up_at, w32_of (a := 0) (by decide) (by decide), if_pos rfl]
    rcases z_done (h.up0 0) (kd := 5) (who := x) (sum := 0) (ot := -1) (code := 2) ⟨by decide, fun q => by omega, fun _ => gx, fun q => by omega, by decide, fun q => by omega, fun q => by omega, fun _ => rfl⟩ (by decide) (by decide) with ⟨g1, g2⟩ | ⟨g1, g2⟩ | ⟨-, κ', μ', g1, g2, A, h0, h5, h4⟩
    · rw [g1, zC_Xo] at rc
      rw [g2, zC_I, w32_of (a := 0) (by decide) (by decide), if_pos rfl, zUp_00] at rm
      exact z_step.th h rc rm (by decide) (by decide +kernel)
    · rw [g1, zC_Xo] at rc
      rw [g2, zC_I, w32_of (a := 0) (by decide) (by decide), if_pos rfl, zUp_00] at rm
      exact z_step.th h rc rm (by decide) (by decide +kernel)
    · have hI := A.1.1.row.2.2.2.2.2.2.2.2.1.1 x.toNat (by omega)
      rw [Int.toNat_of_nonneg gx.1] at hI
      rw [g1, zC_J] at rc
      rw [g2, zC_I, w32_of (a := 1) (by decide) (by decide), if_neg (by decide), m_weightOf gx.1 (by omega) (by omega) (by omega) (by omega) (by omega), zC_J, h5] at rm
      refine z_step.ok rc ?_ A h0
      rw [rm]
      unfold q_an q_do
      rw [if_neg (by decide), if_neg (by decide), if_neg (by decide), if_neg (by decide), if_neg (by decide), if_pos rfl, if_neg (by decide), if_neg (by decide), if_neg (by decide), if_neg (by decide), if_neg (by decide), if_pos rfl]
  · have e1 := kN_inv (κ := κ) k3 h6 hx (by omega)
    have e2 := mN_inv (μ := μ) m5 h6 hx (by omega)
    refine z_step.th (v := zI 0) (E := eIOB) (n := 1) h ?_ ?_ (by decide) (by decide +kernel)
    · unfold F_Ledger_fail
      rw [e1, zC_I, w32_of (a := 0) (by decide) (by decide), if_pos rfl]
    · unfold F_Model_fail J_Model_fail_14
      rw [e2, zC_I, w32_of (a := 0) (by decide) (by decide), if_pos rfl, zLet_eq, zUp_at, q_up_at, w32_of (a := 1) (by decide) (by decide), if_neg (by decide)]
end GC
