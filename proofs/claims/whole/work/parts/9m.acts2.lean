/-! ===== move, close, undo ===== -/
section GD
variable {m dl a : Nat} {B kd who sum ot : Int} {κ μ ν : ZMem} {x y z : Int} {tm ex pr J s : Int → Int} {σ : QS}
theorem act_move (h : z_all m dl a κ μ) (hx : q_i32 x) (hy : q_i32 y) (hz : q_i32 z) : z_step csA (F_Ledger_move x y z κ) (F_Model_move x y z μ) := by
  obtain ⟨hf, h6, hdl, ht, ⟨m5, m6, m11, ha⟩, ⟨k3, k4, k11⟩, hi, hq, hs⟩ := h.1.all
  have q2 := h.1.1.row.2.2.2.2.2.1
  by_cases gx : 0 ≤ x ∧ x < m
  · have e1 := kY_inv (κ := κ) k3 h6 gx.1 gx.2
    have e2 := mY_inv (μ := μ) m5 h6 gx.1 gx.2
    by_cases gy : 0 ≤ y ∧ y < m
    · have e3 := kY_inv (κ := κ) k3 h6 gy.1 gy.2
      have e4 := mY_inv (μ := μ) m5 h6 gy.1 gy.2
      obtain ⟨x1, x2⟩ := hx
      obtain ⟨y1, y2⟩ := hy
      obtain ⟨z1, z2⟩ := hz
      by_cases gxy : x = y
      · refine z_step.th (v := zI 0) (E := eIAE) (n := 2) h ?_ ?_ (by decide) (by decide +kernel)
        · unfold F_Ledger_move J_Ledger_move_41
          rw [e1, zC_I, w32_of (a := 1) (by decide) (by decide), if_neg (by decide), e3, zC_I, w32_of (a := 1) (by decide) (by decide), if_neg (by decide), if_pos (by rw [gxy])]
        · unfold F_Model_move J_Model_move_38 J_Model_move_43
          rw [e2, zC_I, w32_of (a := 1) (by decide) (by decide), if_neg (by decide), e4, zC_I, w32_of (a := 1) (by decide) (by decide), if_neg (by decide), if_pos (by rw [gxy]), zLet_eq, zUp_at, q_up_at, w32_of (a := 2) (by decide) (by decide), if_neg (by decide)]
      · by_cases gz : 1 ≤ z ∧ z ≤ 9999
        · have ei : F_Model_isIn (w32 z) 1 9999 μ = some (.inr (some (zI 1)), μ) := by rw [w32_of z1 z2]; exact z_isInY gz.1 gz.2 (by decide) (by decide)
          have rc : F_Ledger_move x y z κ = zC (F_Ledger_done 7 x z y κ) (zkJ (fun x4 μ3 => some (.inr (some (zI x4)), μ3))) zXo := by
            unfold F_Ledger_move
            rw [e1, zC_I, w32_of (a := 1) (by decide) (by decide), if_neg (by decide), e3, zC_I, w32_of (a := 1) (by decide) (by decide), if_neg (by decide), w32_of x1 x2, w32_of y1 y2, if_neg gxy, w32_of z1 z2, if_neg (by omega), w32_of (a := 9999) (by decide) (by decide), if_pos (by omega)]
          have hI := hi.1 x.toNat (by omega)
          rw [Int.toNat_of_nonneg gx.1] at hI
          have z5 : zUp μ 0 0 0 5 = μ 5 := zUp_ne (by decide)
          have em : F_Model_movedBy x z (zUp μ 0 0 0) = some (.inr (some (zJ (q_ov x z (μ 5)))), zUp μ 0 0 0) := by
            have := m_movedBy (μ := zUp μ 0 0 0) (i := x) (sum := z) gx.1 (by omega) (by omega) (by omega) (by rw [z5]; omega) (by rw [z5]; omega) (by rw [z5]; omega) (by rw [z5]; omega)
            rw [z5] at this
            exact this
          have rm : F_Model_move x y z μ = zC (F_Model_acts 7 x z y 3 (zUp μ 0 0 0)) (zkI (fun x7 μ6 => if w32 x7 = 0 then (some (.inr (some (zI 0)), μ6)) else (some (.inr (some (zI (q_ov x z (μ 5)))), μ6)))) zX0 := by
            unfold F_Model_move J_Model_move_43
            rw [e2, zC_I, w32_of (a := 1) (by decide) (by decide), if_neg (by decide), e4, zC_I, w32_of (a := 1) (by decide) (by decide), if_neg (by decide), w32_of x1 x2, w32_of y1 y2, if_neg gxy, ei, zC_I, w32_of (a := 1) (by decide) (by decide), if_neg (by decide), zLet_eq, zUp_at, q_up_at, w32_of (a := 0) (by decide) (by decide), if_pos (by decide), em, zC_J]
          rcases z_done (h.up0 0) (kd := 7) (who := x) (sum := z) (ot := y) (code := 3) ⟨by decide, fun q => by omega, fun _ => gx, fun _ => ⟨gy.1, gy.2, fun q => gxy q.symm⟩, by omega, fun q => by omega, fun q => by omega, fun q => absurd rfl q⟩ (by decide) (by decide) with ⟨g1, g2⟩ | ⟨g1, g2⟩ | ⟨-, κ', μ', g1, g2, A, h0, h5, h4⟩
          · rw [g1, zC_Xo] at rc
            rw [g2, zC_I, w32_of (a := 0) (by decide) (by decide), if_pos rfl, zUp_00] at rm
            exact z_step.th h rc rm (by decide) (by decide +kernel)
          · rw [g1, zC_Xo] at rc
            rw [g2, zC_I, w32_of (a := 0) (by decide) (by decide), if_pos rfl, zUp_00] at rm
            exact z_step.th h rc rm (by decide) (by decide +kernel)
          · rw [g1, zC_J] at rc
            rw [g2, zC_I, w32_of (a := 1) (by decide) (by decide), if_neg (by decide)] at rm
            refine z_step.ok rc ?_ A h0
            rw [rm, zUp_ne (by decide), zUp_ne (by decide), zUp_ne (by decide), zUp_ne (by decide)]
            unfold q_an
            rw [if_neg (by decide), if_neg (by decide), if_neg (by decide), if_neg (by decide), if_neg (by decide), if_neg (by decide), if_pos rfl, ← q2]
        · have ei : F_Model_isIn (w32 z) 1 9999 μ = some (.inr (some (zI 0)), μ) := by rw [w32_of z1 z2]; exact z_isInN (by omega) (by omega) (by omega) (by decide) (by decide) (by decide) (by decide)
          refine z_step.th (v := zI 0) (E := eIAE) (n := 2) h ?_ ?_ (by decide) (by decide +kernel)
          · unfold F_Ledger_move J_Ledger_move_41
            rw [e1, zC_I, w32_of (a := 1) (by decide) (by decide), if_neg (by decide), e3, zC_I, w32_of (a := 1) (by decide) (by decide), if_neg (by decide), w32_of x1 x2, w32_of y1 y2, if_neg gxy, w32_of z1 z2, w32_of (a := 9999) (by decide) (by decide)]
            by_cases g : z < 1
            · rw [if_pos g]
            · rw [if_neg g, if_neg (by omega)]
          · unfold F_Model_move J_Model_move_38 J_Model_move_43
            rw [e2, zC_I, w32_of (a := 1) (by decide) (by decide), if_neg (by decide), e4, zC_I, w32_of (a := 1) (by decide) (by decide), if_neg (by decide), w32_of x1 x2, w32_of y1 y2, if_neg gxy, ei, zC_I, w32_of (a := 0) (by decide) (by decide), if_pos rfl, zLet_eq, zUp_at, q_up_at, w32_of (a := 2) (by decide) (by decide), if_neg (by decide)]
    · have e3 := kN_inv (κ := κ) k3 h6 hy (by omega)
      have e4 := mN_inv (μ := μ) m5 h6 hy (by omega)
      refine z_step.th (v := zI 0) (E := eIOB) (n := 1) h ?_ ?_ (by decide) (by decide +kernel)
      · unfold F_Ledger_move J_Ledger_move_16
        rw [e1, zC_I, w32_of (a := 1) (by decide) (by decide), if_neg (by decide), e3, zC_I, w32_of (a := 0) (by decide) (by decide), if_pos rfl]
      · unfold F_Model_move J_Model_move_17 J_Model_move_43
        rw [e2, zC_I, w32_of (a := 1) (by decide) (by decide), if_neg (by decide), e4, zC_I, w32_of (a := 0) (by decide) (by decide), if_pos rfl, zLet_eq, zUp_at, q_up_at, w32_of (a := 1) (by decide) (by decide), if_neg (by decide)]
  · have e1 := kN_inv (κ := κ) k3 h6 hx (by omega)
    have e2 := mN_inv (μ := μ) m5 h6 hx (by omega)
    refine z_step.th (v := zI 0) (E := eIOB) (n := 1) h ?_ ?_ (by decide) (by decide +kernel)
    · unfold F_Ledger_move J_Ledger_move_16
      rw [e1, zC_I, w32_of (a := 0) (by decide) (by decide), if_pos rfl]
    · unfold F_Model_move J_Model_move_17 J_Model_move_43
      rw [e2, zC_I, w32_of (a := 0) (by decide) (by decide), if_pos rfl, zLet_eq, zUp_at, q_up_at, w32_of (a := 1) (by decide) (by decide), if_neg (by decide)]
/-! what was clawed back comes at the end alone -/
theorem q_qt_89 {k : Int} (h6 : m ≤ 6) (hk : k = 89 ∨ k = 91) : (q_qt m tm ex σ).1 k = σ.1 k := by
  show q_qb tm (q_fee m tm σ.1) (q_py m _ σ.1) k = σ.1 k
  unfold q_qb q_pf
  rw [if_neg (by omega), if_neg (by omega), if_neg (by omega), if_neg (by omega), q_py_hi (by omega)]
theorem q_wn_89 {k : Int} (h6 : m ≤ 6) (hk : k = 89 ∨ k = 91) : ∀ n : Nat, (q_wn m tm ex n σ).1 k = σ.1 k
  | 0 => rfl
  | n + 1 => by
    rw [q_wn, q_qt_89 h6 hk, q_wn_89 h6 hk n]
theorem q_do_89 (h6 : m ≤ 6) (hdl : dl ≤ 6) (ha : q_ac m dl kd who sum ot) (h : σ.1 91 = 0 → σ.1 89 = 0) : (q_do m tm ex kd who sum ot σ).1 91 = 0 → (q_do m tm ex kd who sum ot σ).1 89 = 0 := by
  obtain ⟨a1, a2, a3, a4, a5, a6, a7, a8⟩ := ha
  have key : ∀ s' : Int → Int, (s' 91 = σ.1 91 ∧ s' 89 = σ.1 89) → s' 91 = 0 → s' 89 = 0 := fun s' e q => by rw [e.2]; exact h (by rw [← e.1]; exact q)
  unfold q_do
  by_cases h0 : kd = 0
  · rw [if_pos h0]
    refine key _ ⟨?_, ?_⟩
    · show q_rs tm who sum (q_py m _ σ.1) 91 = _
      unfold q_rs
      rw [if_neg (by omega), if_neg (by decide), if_neg (by omega), q_py_hi (by omega)]
    · show q_rs tm who sum (q_py m _ σ.1) 89 = _
      unfold q_rs
      rw [if_neg (by omega), if_neg (by decide), if_neg (by omega), q_py_hi (by omega)]
  rw [if_neg h0]
  by_cases h1 : kd = 1
  · rw [if_pos h1]
    refine key _ ⟨?_, ?_⟩
    · show q_gt m _ (q_sb tm who sum 0 σ.1) 91 = _
      rw [q_gt_ne (by omega), q_sb_at (by omega) (by omega) (by omega)]
    · show q_gt m _ (q_sb tm who sum 0 σ.1) 89 = _
      rw [q_gt_ne (by omega), q_sb_at (by omega) (by omega) (by omega)]
  rw [if_neg h1]
  by_cases h2 : kd = 2
  · rw [if_pos h2]
    refine key _ ⟨?_, ?_⟩
    · show q_gt m _ (q_sb tm who sum 1 σ.1) 91 = _
      rw [q_gt_ne (by omega), q_sb_at (by omega) (by omega) (by omega)]
    · show q_gt m _ (q_sb tm who sum 1 σ.1) 89 = _
      rw [q_gt_ne (by omega), q_sb_at (by omega) (by omega) (by omega)]
  rw [if_neg h2]
  by_cases h3 : kd = 3
  · rw [if_pos h3]
    exact key _ ⟨q_up_ne (by omega), q_up_ne (by omega)⟩
  rw [if_neg h3]
  by_cases h4 : kd = 4
  · rw [if_pos h4]
    exact key _ ⟨q_wn_89 h6 (Or.inr rfl) _, q_wn_89 h6 (Or.inl rfl) _⟩
  rw [if_neg h4]
  by_cases h5 : kd = 5
  · rw [if_pos h5]
    refine key _ ⟨?_, ?_⟩
    · show q_fa who σ.1 91 = _
      unfold q_fa
      rw [if_neg (by omega), if_neg (by omega)]
    · show q_fa who σ.1 89 = _
      unfold q_fa
      rw [if_neg (by omega), if_neg (by omega)]
  rw [if_neg h5]
  by_cases h7 : kd = 7
  · rw [if_pos h7]
    refine key _ ⟨?_, ?_⟩
    · show q_mv who ot sum σ.1 91 = _
      unfold q_mv
      rw [if_neg (by omega), if_neg (by omega), if_neg (by omega), if_neg (by omega)]
    · show q_mv who ot sum σ.1 89 = _
      unfold q_mv
      rw [if_neg (by omega), if_neg (by omega), if_neg (by omega), if_neg (by omega)]
  rw [if_neg h7]
  intro q
  exfalso
  have : (q_end m tm ex σ).1 91 = 1 := by
    show q_gt m _ (q_en tm σ.1) 91 = 1
    rw [q_gt_ne (by omega)]
    unfold q_en
    rw [if_neg (by decide), if_neg (by decide), if_neg (by decide), if_pos rfl]
  rw [this] at q
  exact absurd q (by decide)
theorem q_run_89 (hf : q_fu m dl tm ex pr) (hj : q_jo m dl tm ex pr J a) : ∀ k : Nat, k ≤ a → (q_run m tm ex pr J k).1 91 = 0 → (q_run m tm ex pr J k).1 89 = 0
  | 0, _ => fun _ => by
    show q_s00 m pr 89 = 0
    have := hf.1
    unfold q_s00
    rw [if_neg (by omega)]
  | k + 1, hk => q_do_89 hf.1 hf.2.1 (hj.2 k (by omega)).1 (q_run_89 hf hj k (by omega))
theorem act_close (h : z_all m dl a κ μ) : z_step [(eISE, 1), (eUOE, 2)] (F_Ledger_close κ) (F_Model_close μ) := by
  obtain ⟨hf, h6, hdl, ht, ⟨m5, m6, m11, ha⟩, ⟨k3, k4, k11⟩, hi, hq, hs⟩ := h.1.all
  have q2 := h.1.1.row.2.2.2.2.2.1
  have h89 := q_run_89 hf h.1.1.2.2.1 a (Nat.le_refl _)
  rw [← q2] at h89
  have rc : F_Ledger_close κ = zC (F_Ledger_done 6 (-1) 0 (-1) κ) (zkJ (fun x2 μ1 => some (.inr (some (zJ x2)), μ1))) zXo := rfl
  have rm : F_Model_close μ = zC (F_Model_acts 6 (-1) 0 (-1) 1 μ) (zkI (fun x2 μ1 => if w32 x2 = 0 then (some (.inr (some (zJ 0)), μ1)) else (zRd μ1 5 92 89 (fun x3 => some (.inr (some (zJ x3)), μ1))))) zX0 := rfl
  rcases z_done h (kd := 6) (who := -1) (sum := 0) (ot := -1) (code := 1) ⟨by decide, fun q => by omega, fun q => by omega, fun q => by omega, by decide, fun q => by omega, fun _ => rfl, fun _ => rfl⟩ (by decide) (by decide) with ⟨g1, g2⟩ | ⟨g1, g2⟩ | ⟨gc, κ', μ', g1, g2, A, h0, h5, h4⟩
  · rw [g1, zC_Xo] at rc
    rw [g2, zC_I, w32_of (a := 0) (by decide) (by decide), if_pos rfl] at rm
    exact z_step.th h rc rm (by decide) (by decide +kernel)
  · rw [g1, zC_Xo] at rc
    rw [g2, zC_I, w32_of (a := 0) (by decide) (by decide), if_pos rfl] at rm
    exact z_step.th h rc rm (by decide) (by decide +kernel)
  · rw [g1, zC_J] at rc
    rw [g2, zC_I, w32_of (a := 1) (by decide) (by decide), if_neg (by decide), zRd_ok (by decide) (by decide) (by decide), h5] at rm
    refine z_step.ok rc ?_ A h0
    rw [rm]
    have e91 : μ 5 91 = 0 := by
      rcases z_ev91 hi with e | e
      · exact e
      · exfalso
        unfold q_can at gc
        by_cases hm0 : m = 0
        · rw [if_pos hm0] at gc
          exact absurd gc (by decide)
        · rw [if_neg hm0, if_pos e] at gc
          exact absurd gc (by decide)
    have e89 := h89 e91
    have : (q_do m (μ 2) (μ 4) 6 (-1) 0 (-1) (q_run m (μ 2) (μ 4) (μ 3) (μ 8) a)).1 89 = q_hl (μ 5) + q_ou (μ 2) (μ 5) := by
      unfold q_do
      rw [if_neg (by decide), if_neg (by decide), if_neg (by decide), if_neg (by decide), if_neg (by decide), if_neg (by decide), if_neg (by decide)]
      show q_gt m _ (q_en (μ 2) (q_run m (μ 2) (μ 4) (μ 3) (μ 8) a).1) 89 = _
      rw [q_gt_ne (by omega), ← q2]
      unfold q_en
      rw [if_neg (by decide), if_neg (by decide), if_pos rfl, e89]
      omega
    rw [this]
    unfold q_an
    rw [if_neg (by decide), if_neg (by decide), if_neg (by decide), if_neg (by decide), if_neg (by decide), if_neg (by decide), if_neg (by decide), ← q2]
/-! the class goes through all anew -/
theorem k_anew (hF : c_fd m dl tm ex pr (κ 3) (κ 4) (κ 5) (κ 6)) (h11 : κ 11 1 = a) (hJ : j_rw J a (κ 12)) (h13 : κ 13 2 = 1) (hf : q_fu m dl tm ex pr) (hj : q_jo m dl tm ex pr J a) : ∃ κ', F_Ledger_goThroughAnew κ = some (.inr none, κ') ∧ s_T m dl tm ex (q_run m tm ex pr J a) (zVw plN κ') ∧ (∀ c, c < 13 ∨ 32 ≤ c → κ' c = κ c) := by
  obtain ⟨h1, h2, -, h3, h4, h5⟩ := hF
  have h60 := hj.1
  obtain ⟨ν, r, hs, f⟩ := t_open (μ := zVw plNo κ) (m := m) (dl := dl) (tm := tm) (ex := ex) (pr := pr) h13 hf.1 h3 h4 h5 h1 h2
  obtain ⟨g1, g2⟩ := k_mgT (pl := plNo) (κ := κ) (ν := ν) (by decide) f
  have hs' : s_T m dl tm ex (q_run m tm ex pr J 0) (zVw plN (zMg plNo κ ν)) := hs.cells g1
  obtain ⟨⟨v, κ1⟩, e, j, hv, hjj, hs1, f1⟩ := q_loop (L := fun n (b : Int × ZMem) => L_Ledger_goThroughAnew_13 (fun μ6 => some (.inr none, μ6)) n b.1 b.2) (P := fun k b => ∃ j : Nat, b.1 = j ∧ j + k = a ∧ s_T m dl tm ex (q_run m tm ex pr J j) (zVw plN b.2) ∧ (∀ c, c < 13 ∨ 32 ≤ c → b.2 c = κ c)) (fun n k b hb => by
      obtain ⟨v, κ1⟩ := b
      obtain ⟨j, hv, hjj, hs1, f1⟩ := hb
      simp only [] at hv hs1 f1 ⊢
      subst hv
      obtain ⟨hi, b0, b1, -⟩ := q_run_B (k := j) hf hj (by omega)
      have e11 : κ1 11 1 = a := by rw [f1 11 (by decide)]; exact h11
      have h' : s_T m dl tm ex (q_run m tm ex pr J j) (zVw plNf κ1) := hs1.cells (fun i hi => by
        have : ∀ i : Nat, i < 19 → zRho plNf i = zRho plN i := by decide
        show κ1 (zRho plNf i) = κ1 (zRho plN i)
        rw [this i hi])
      obtain ⟨ν2, r2, hs2, f2⟩ := t_follow (μ := zVw plNf κ1) (a := a) (J := J) (k := j) h' hi hf b0 b1 (by show j_rw J a (κ1 12); rw [f1 12 (by decide)]; exact hJ) (by omega) h60 (hj.2 j (by omega)).1
      obtain ⟨g1', g2'⟩ := k_mgT (pl := plNf) (κ := κ1) (ν := ν2) (by decide) f2
      rw [q_run_step hf hj (by omega)] at hs2
      refine ⟨((j : Int) + 1, zMg plNf κ1 ν2), ?_, j + 1, rfl, by omega, hs2.cells g1', fun c hc => (g2' c hc).trans (f1 c hc)⟩
      rw [L_Ledger_goThroughAnew_13, e11, w32_of (by omega) (by omega), w32_of (by omega) (by omega), if_neg (by omega), r2, zCm_I, zLet_eq]) a zN (0, zMg plNo κ ν) ⟨0, rfl, by omega, hs', g2⟩ (Nat.le_of_lt (zN_gt (by omega)))
  simp only [] at e hv hs1 f1
  obtain rfl : j = a := by omega
  refine ⟨κ1, ?_, hs1, f1⟩
  unfold F_Ledger_goThroughAnew
  rw [r, zCm_V]
  refine e.trans ?_
  rw [hv]
  obtain ⟨n, hn⟩ : ∃ n, zN - j = n + 1 := ⟨zN - j - 1, by have := zN_gt (m := j) (by omega); omega⟩
  rw [hn]
  show L_Ledger_goThroughAnew_13 _ (n + 1) (j : Int) κ1 = _
  rw [L_Ledger_goThroughAnew_13, f1 11 (by decide), h11, if_pos (Int.le_refl _)]
theorem c_jn.less {j j' r r' : Int → Int} {b : Nat} (h : c_jn m a tm ex pr J j r) (hb : b ≤ a) (h1 : j' 1 = b) (hr : r' = r) : c_jn m b tm ex pr J j' r' := by
  rw [hr]
  exact ⟨h1, fun k hk => h.2.1 k (by omega), fun k hk => h.2.2 k (by omega)⟩
theorem act_undo (h : z_all m dl a κ μ) : z_step [(eISE, 1)] (F_Ledger_undo κ) (F_Model_undo μ) := by
  obtain ⟨hf, h6, hdl, ht, ⟨m5, m6, m11, ha⟩, ⟨k3, k4, k11⟩, hi, hq, hs⟩ := h.1.all
  have M := h.1.1
  have C := h.1.2
  by_cases ga : a = 0
  · refine z_step.th (v := zI 0) (E := eISE) (n := 1) h ?_ ?_ (by decide) (by decide +kernel)
    · unfold F_Ledger_undo
      rw [k11, w32_of (by omega) (by omega), if_pos (by omega)]
    · unfold F_Model_undo J_Model_undo_13
      rw [m11, w32_of (by omega) (by omega), if_pos (by omega), zLet_eq, zUp_at, q_up_at, w32_of (a := 1) (by decide) (by decide), if_neg (by decide)]
  · obtain ⟨b, rfl⟩ : ∃ b, a = b + 1 := ⟨a - 1, by omega⟩
    have hj := M.2.2.1.less (b := b) (by omega)
    have hC : c_fd m dl (μ 2) (μ 4) (μ 3) (κ 3) (κ 4) (κ 5) (κ 6) := C.1
    have hJ : c_jn m (b + 1) (μ 2) (μ 4) (μ 3) (μ 8) (κ 11) (κ 12) := C.2.1
    have hJ' : c_jn m b (μ 2) (μ 4) (μ 3) (μ 8) (zUp κ 11 1 (b : Int) 11) (zUp κ 11 1 (b : Int) 12) := hJ.less (by omega) (by rw [zUp_at, q_up_at]) (zUp_ne (by decide))
    obtain ⟨κ', r1, s1, f1⟩ := k_anew (κ := zUp κ 11 1 (b : Int)) (a := b) (J := μ 8) (by rw [zUp_ne (by decide), zUp_ne (by decide), zUp_ne (by decide), zUp_ne (by decide)]; exact hC) hJ'.1 hJ'.2.1 (by rw [zUp_ne (by decide)]; exact C.2.2.1.2.1) hf hj
    generalize hμ1 : zUp (zUp μ 0 0 0) 0 11 (b : Int) = μ1
    have nc : ∀ c, c ≠ 0 → μ1 c = μ c := fun c hc => by rw [← hμ1, zUp_ne hc, zUp_ne hc]
    have n0 : ∀ k, k ≠ 0 → k ≠ 11 → μ1 0 k = μ 0 k := fun k h0 h1 => by rw [← hμ1, zUp_at, q_up_ne h1, zUp_at, q_up_ne h0]
    have n00 : μ1 0 0 = 0 := by rw [← hμ1, zUp_at, q_up_ne (by decide), zUp_at, q_up_at]
    have n11 : μ1 0 11 = b := by rw [← hμ1, zUp_at, q_up_at]
    have cf1 : m_cf m dl μ1 := by
      obtain ⟨w1, w2, w3, w4, w5, w6, w7⟩ := M.1
      exact ⟨(n0 5 (by decide) (by decide)).trans w1, (n0 6 (by decide) (by decide)).trans w2, by rw [nc 2 (by decide), nc 3 (by decide), nc 4 (by decide)]; exact w3, by rw [nc 5 (by decide)]; exact w4, by rw [nc 6 (by decide)]; exact w5, by rw [nc 7 (by decide)]; exact w6, (n0 14 (by decide) (by decide)).trans w7⟩
    obtain ⟨μ2, r2, kp, M2⟩ := m_worksOutS cf1 n11 (by rw [nc 2 (by decide), nc 3 (by decide), nc 4 (by decide), nc 8 (by decide)]; exact hj)
    obtain ⟨e1, e2, e3, e4, e8, e5, e6, e11⟩ := kp.at
    rw [nc 2 (by decide)] at e2
    rw [nc 3 (by decide)] at e3
    rw [nc 4 (by decide)] at e4
    rw [nc 8 (by decide)] at e8
    have kc : ∀ c, c = 1 ∨ c = 14 ∨ c = 15 → μ2 c = μ c := fun c hc => by rw [kp.1 c (by omega) (by omega) (by omega) (by omega) (by omega) (by omega) (by omega) (by omega) (by omega) (by omega), nc c (by omega)]
    have C' : c_at m dl b (μ2 2) (μ2 4) (μ2 3) (μ2 8) κ' := by
      rw [e2, e3, e4, e8]
      refine ⟨?_, ?_, s1, ?_⟩
      · show c_fd m dl (μ 2) (μ 4) (μ 3) (κ' 3) (κ' 4) (κ' 5) (κ' 6)
        rw [f1 3 (by decide), f1 4 (by decide), f1 5 (by decide), f1 6 (by decide), zUp_ne (by decide), zUp_ne (by decide), zUp_ne (by decide), zUp_ne (by decide)]
        exact hC
      · show c_jn m b (μ 2) (μ 4) (μ 3) (μ 8) (κ' 11) (κ' 12)
        rw [f1 11 (by decide), f1 12 (by decide)]
        exact hJ'
      · rw [f1 32 (by decide), zUp_ne (by decide)]; exact C.2.2.2
    refine z_step.ok (v := zI b) (κ' := κ') (μ' := μ2) ?_ ?_ (h.f ⟨M2, C'⟩ (fun c hc => by rw [f1 c (by omega), zUp_ne (by omega)]) ⟨kc, fun k hk => by rw [kp.2 k (by omega) (by omega) (by omega), n0 k (by omega) (by omega)]⟩ ?_) ?_
    · unfold F_Ledger_undo
      rw [k11, w32_of (by omega) (by omega), if_neg (by omega), zLet_eq, show ((b + 1 : Nat) : Int) - 1 = b by omega, r1, zC_V, f1 11 (by decide), zUp_at, q_up_at]
    · unfold F_Model_undo J_Model_undo_13
      rw [m11, w32_of (by omega) (by omega), if_neg (by omega), zLet_eq, zUp_at, q_up_at, w32_of (a := 0) (by decide) (by decide), if_pos (by decide), zLet_eq, q_up_ne (by decide), m11, show ((b + 1 : Nat) : Int) - 1 = b by omega, hμ1, r2, zC_V, e11, n11]
    · unfold m_zz
      rw [e2, e3, e4, e8]
      exact h.2.2.1
    · rw [kp.2 0 (by decide) (by decide) (by decide)]; exact n00
end GD
