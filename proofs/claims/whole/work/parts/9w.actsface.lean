/-! ===== acts, as it is called ===== -/
section TP
variable {m dl a i : Nat} {T : Int → Int} {E p w f : Int} {κ μ κ' μ' : ZMem}
theorem k_rewind {K : ZMem → Option ZRes} {Z : String → ZMem → Option ZRes} : zCm [1, 2] κ (F_Text_rewind (zVw [1, 2] κ)) (zkV K) Z = K (X_t 1 κ 0 (-1)) := by
  unfold F_Text_rewind
  rw [zLet_eq, zLet_eq, zCm_V, zMg_upg (pl := [1, 2]) (c := 0) (by decide), zMg_upg (pl := [1, 2]) (c := 0) (by decide), zMg_vw]
  rfl
theorem m_begins (μ : ZMem) : ∃ μ', F_Model_begins μ = some (.inr none, y_t μ' 0 (-1)) ∧ μ' 0 21 = 0 ∧ μ' 0 22 = μ 0 21 ∧ (∀ k, k ≠ 21 → k ≠ 22 → k ≠ 23 → k ≠ 24 → μ' 0 k = μ 0 k) ∧ (∀ c, c ≠ 0 → μ' c = μ c) := by
  refine ⟨zUp (zUp (zUp (zUp μ 0 24 (-1)) 0 22 (μ 0 21)) 0 21 0) 0 23 0, ?_, ?_, ?_, fun k h1 h2 h3 h4 => ?_, fun c hc => ?_⟩
  · unfold F_Model_begins
    rw [zLet_eq, zLet_eq, zLet_eq, zLet_eq, zUp_at (c := 0), q_up_ne (show (21 : Int) ≠ 24 by decide)]
    have key : ∀ ν : ZMem, ν 0 23 = 0 → ν 0 24 = -1 → y_t ν 0 (-1) = ν := fun ν a b => by
      unfold y_t
      rw [zUp_self a, zUp_self b]
    rw [key _ (by rw [zUp_at, q_up_at]) (by rw [zUp_at, q_up_ne (by decide), zUp_at, q_up_ne (by decide), zUp_at, q_up_ne (by decide), zUp_at, q_up_at])]
  · rw [zUp_at, q_up_ne (by decide), zUp_at, q_up_at]
  · rw [zUp_at, q_up_ne (by decide), zUp_at, q_up_ne (by decide), zUp_at, q_up_at]
  · rw [zUp_at, q_up_ne h3, zUp_at, q_up_ne h1, zUp_at, q_up_ne h2, zUp_at, q_up_ne h4]
  · rw [zUp_ne hc, zUp_ne hc, zUp_ne hc, zUp_ne hc]
/-- from what held ahead of a reading to what holds behind it -/
theorem z_all.rd (h : z_all m dl a κ μ) {m' dl' a' : Nat} (R : z_rest m' dl' a' κ' μ') (hk : ∀ c, c = 0 ∨ 109 ≤ c → κ' c = κ c) (hm : ∀ c, c = 1 ∨ c = 14 → μ' c = μ c) (h19 : μ' 0 19 = μ 0 19) (hz : m_zz μ') (t1 : κ' 1 1 = 0) (t2 : μ' 0 21 = 0) (t3 : κ' 1 3 = μ' 0 24) : z_all m' dl' a' κ' μ' := by
  obtain ⟨-, hT, -, -, hI⟩ := h
  refine ⟨R, fun k hk => ?_, hz, ⟨t1.trans t2.symm, by rw [t2]; decide, fun i i0 i1 => ?_, t3⟩, ?_⟩
  · rw [hm 1 (by decide)]; exact hT k hk
  · rw [t2] at i1
    omega
  · unfold z_im
    rw [hk 0 (by decide), hk 109 (by decide), hk 110 (by decide), hk 111 (by decide), hk 112 (by decide), hk 113 (by decide), hk 114 (by decide), hm 14 (by decide), h19]
    exact hI
def kKr (a : Nat) (k10 : Int) (μ9 : ZMem) : Option ZRes := if w32 (μ9 0 24) = w32 (-1) then (J_Model_acts_w2_45 (a : Int) k10 0 μ9) else (J_Model_acts_w2_45 (a : Int) k10 1 μ9)
theorem act_acts (h : z_all m dl a κ μ) : z_step [(eIAE, 1)] (F_Ledger_acts κ) (F_Model_acts_w2 μ) := by
  obtain ⟨hf, h6, hdl, ht, ⟨m5, m6, m11, ha⟩, ⟨k3, k4, k11⟩, hi, hq90, hs⟩ := h.1.all
  obtain ⟨p1, p2, p3, p4⟩ := h.2.2.2.1
  have w0 : w32 0 = 0 := w32_of (by decide) (by decide)
  have w1 : w32 1 = 1 := w32_of (by decide) (by decide)
  have wm : w32 (-1) = -1 := w32_of (by decide) (by decide)
  obtain ⟨μb, rb, b21, b22, b0, bc⟩ := m_begins μ
  have hT : q_T (μ 15) (μ 0 21) := ⟨p2, fun i i0 i1 => (p3 i i0 i1).2⟩
  have kT : k_T 1 (μ 15) (μ 0 21) κ := ⟨p1, fun i i0 i1 => (p3 i i0 i1).1⟩
  have yT : y_T (μ 15) (μ 0 21) μb := ⟨b22, fun i i0 i1 => by rw [bc 15 (by decide)]⟩
  have Rb : z_rest m dl a κ μb := ⟨h.1.1.cong (fun c c0 c1 => bc c (by omega)) (fun k hk => b0 k (by omega) (by omega) (by omega) (by omega)), by rw [bc 2 (by decide), bc 3 (by decide), bc 4 (by decide), bc 8 (by decide)]; exact h.1.2⟩
  have b11 : y_t μb 0 (-1) 0 11 = a := by rw [y_t_0 (by decide) (by decide), b0 11 (by decide) (by decide) (by decide) (by decide)]; exact m11
  obtain ⟨z2, z3, z4, z8⟩ := h.2.2.1
  have main := l_readActs (m := m) (dl := dl) (a := a) (κ := κ) (μ := μb) hT (a : Int) (kKr a) kT yT Rb p2.1
  have ec : F_Ledger_acts κ = zC (F_Ledger_readActs (X_t 1 κ 0 (-1))) (zkI (fun x5 μ4 => zLet (zUp μ4 1 1 0) (fun μ6 => if w32 x5 = 0 then (if w32 (μ6 11 1) = w32 (a : Int) then (J_Ledger_acts_55 μ6) else (zLet (zUp μ6 11 1 (a : Int)) (fun μ7 => zC (F_Ledger_goThroughAnew  μ7) (zkV (fun μ8 => J_Ledger_acts_55 μ8)) zX0))) else (some (.inr (some (zI ((μ6 11 1) - (a : Int)))), μ6))))) zX0 := by
    unfold F_Ledger_acts
    rw [zLet_eq, k11, k_rewind]
  have em : F_Model_acts_w2 μ = L_Model_acts_w2_11 (a : Int) (kKr a) zN 0 (y_t μb 0 (-1)) := by
    unfold F_Model_acts_w2
    rw [rb, zC_V, zLet_eq, b11]
    rfl
  rw [ec, em]
  rcases main with ⟨κ', μ', i, e1, e2, R', lf, v3, u24⟩ | ⟨κ', μ', i, f, v, e1, e2, R', lf, v3, u24, f0, f1⟩
  · have c11 : κ' 11 1 = ((a + i : Nat) : Int) := R'.2.2.1.1
    have M' := R'.1
    rw [e1, e2]
    unfold kKr
    rw [zC_I, zLet_eq, w1, if_neg (by decide), u24, if_pos rfl]
    unfold J_Model_acts_w2_45
    rw [zLet_eq, zUp_at (c := 0), q_up_at, w0, if_pos rfl, zUp_ne (show (11 : Nat) ≠ 1 by decide), c11]
    refine z_step.ok (v := zI ((0 + i : Nat) : Int)) (κ' := zUp κ' 1 1 0) (μ' := zUp μ' 0 0 0) (m := m) (dl := dl) (a := a + i) ?_ rfl (h.rd ⟨M'.up0 0, ?_⟩ (fun c hc => by rw [zUp_ne (by omega)]; exact lf.1.1 c (by omega)) (fun c hc => by rw [zUp_ne (by omega), lf.2.1 c (by omega), bc c (by omega)]) ?_ ?_ (by rw [zUp_at, q_up_at]) ?_ ?_) (by rw [zUp_at, q_up_at])
    · rw [show ((a + i : Nat) : Int) - (a : Int) = ((0 + i : Nat) : Int) by omega]
    · rw [zUp_ne (by decide), zUp_ne (by decide), zUp_ne (by decide), zUp_ne (by decide)]
      exact R'.2.cg (fun c c0 c1 => zUp_ne (by omega))
    · rw [zUp_at, q_up_ne (by decide), lf.2.2.1 19 (by decide), b0 19 (by decide) (by decide) (by decide) (by decide)]
    · unfold m_zz
      rw [zUp_ne (by decide), zUp_ne (by decide), zUp_ne (by decide), zUp_ne (by decide), lf.2.1 2 (by decide), lf.2.1 3 (by decide), lf.2.1 4 (by decide), bc 2 (by decide), bc 3 (by decide), bc 4 (by decide)]
      exact ⟨z2, z3, z4, lf.2.2.2 (by rw [bc 8 (by decide)]; exact z8)⟩
    · rw [zUp_at, q_up_ne (by decide), lf.2.2.1 21 (by decide)]; exact b21
    · rw [zUp_at, q_up_ne (by decide), zUp_at, q_up_ne (by decide), v3, u24]
  · have c11 : κ' 11 1 = ((a + i : Nat) : Int) := R'.2.2.1.1
    have M' := R'.1
    have C' := R'.2
    have ha' := M'.2.2.1.1
    have hj := M'.2.2.1.less (b := a) (by omega)
    have hf' := M'.1.2.2.1
    rw [e1, e2]
    unfold kKr
    rw [zC_I, zLet_eq, w0, if_pos rfl, u24, w32_of (a := f) (by omega) (by omega), wm, if_neg (show ¬ f = -1 by omega)]
    unfold J_Model_acts_w2_45
    rw [zLet_eq, zLet_eq, zUp_at (c := 0), q_up_at, w1, if_neg (show ¬ (1 : Int) = 0 by decide), zLet_eq, zUp_ne (show (11 : Nat) ≠ 1 by decide), c11, w32_of (a := ((a + i : Nat) : Int)) (by omega) (by omega), w32_of (a := (a : Int)) (by omega) (by omega)]
    -- the reference
    generalize hμ1 : zUp (zUp μ' 0 0 1) 0 11 (a : Int) = μ1
    have nc : ∀ c, c ≠ 0 → μ1 c = μ' c := fun c hc => by rw [← hμ1, zUp_ne hc, zUp_ne hc]
    have n0 : ∀ k, k ≠ 0 → k ≠ 11 → μ1 0 k = μ' 0 k := fun k h0 h1 => by rw [← hμ1, zUp_at, q_up_ne h1, zUp_at, q_up_ne h0]
    have n00 : μ1 0 0 = 1 := by rw [← hμ1, zUp_at, q_up_ne (by decide), zUp_at, q_up_at]
    have n11 : μ1 0 11 = a := by rw [← hμ1, zUp_at, q_up_at]
    have cf1 : m_cf m dl μ1 := by
      obtain ⟨x1, x2, x3, x4, x5, x6, x7⟩ := M'.1
      exact ⟨(n0 5 (by decide) (by decide)).trans x1, (n0 6 (by decide) (by decide)).trans x2, by rw [nc 2 (by decide), nc 3 (by decide), nc 4 (by decide)]; exact x3, by rw [nc 5 (by decide)]; exact x4, by rw [nc 6 (by decide)]; exact x5, by rw [nc 7 (by decide)]; exact x6, (n0 14 (by decide) (by decide)).trans x7⟩
    obtain ⟨μ2, r2, kp, M2⟩ := m_worksOutS cf1 n11 (by rw [nc 2 (by decide), nc 3 (by decide), nc 4 (by decide), nc 8 (by decide)]; exact hj)
    obtain ⟨d1, d2, d3, d4, d8, d5, d6, d11⟩ := kp.at
    rw [nc 2 (by decide)] at d2
    rw [nc 3 (by decide)] at d3
    rw [nc 4 (by decide)] at d4
    rw [nc 8 (by decide)] at d8
    have kc : ∀ c, c = 1 ∨ c = 14 → μ2 c = μ c := fun c hc => by rw [kp.1 c (by omega) (by omega) (by omega) (by omega) (by omega) (by omega) (by omega) (by omega) (by omega) (by omega), nc c (by omega), lf.2.1 c (by omega), bc c (by omega)]
    have k0 : ∀ k, k = 19 ∨ k = 21 ∨ k = 24 → μ2 0 k = μ' 0 k := fun k hk => by rw [kp.2 k (by omega) (by omega) (by omega), n0 k (by omega) (by omega)]
    have hz : m_zz μ2 := by
      unfold m_zz
      rw [d2, d3, d4, d8, lf.2.1 2 (by decide), lf.2.1 3 (by decide), lf.2.1 4 (by decide), bc 2 (by decide), bc 3 (by decide), bc 4 (by decide)]
      exact ⟨z2, z3, z4, lf.2.2.2 (by rw [bc 8 (by decide)]; exact z8)⟩
    have e19 : μ2 0 19 = μ 0 19 := by rw [k0 19 (by decide), lf.2.2.1 19 (by decide), b0 19 (by decide) (by decide) (by decide) (by decide)]
    have e21 : μ2 0 21 = 0 := by rw [k0 21 (by decide), lf.2.2.1 21 (by decide)]; exact b21
    have e24 : μ2 0 24 = f := by rw [k0 24 (by decide)]; exact u24
    have e00 : μ2 0 0 = 1 := by rw [kp.2 0 (by decide) (by decide) (by decide)]; exact n00
    rw [r2, zC_V]
    have fin : ∀ κ2, c_at m dl a (μ' 2) (μ' 4) (μ' 3) (μ' 8) κ2 → (∀ c, c = 0 ∨ 109 ≤ c → κ2 c = κ c) → κ2 1 1 = 0 → κ2 1 3 = f → z_step [(eIAE, 1)] (some (.inl eIAE, κ2)) (some (.inr (some (zI 0)), μ2)) := fun κ2 C2 o2 t1 t3 =>
      ⟨_, κ2, zI 0, μ2, m, dl, a, rfl, rfl, h.rd ⟨M2, by rw [d2, d3, d4, d8]; exact C2⟩ o2 kc e19 hz t1 e21 (by rw [t3, e24]), Or.inr ⟨eIAE, 1, rfl, e00, by decide, zXh_hit (by decide +kernel)⟩⟩
    by_cases g : ((a + i : Nat) : Int) = (a : Int)
    · obtain rfl : i = 0 := by omega
      rw [if_pos g]
      exact fin _ (C'.cg (fun c c0 c1 => zUp_ne (by omega))) (fun c hc => by rw [zUp_ne (by omega)]; exact lf.1.1 c (by omega)) (by rw [zUp_at, q_up_at]) (by rw [zUp_at, q_up_ne (by decide)]; exact v3)
    · rw [if_neg g]
      have hC : c_fd m dl (μ' 2) (μ' 4) (μ' 3) (κ' 3) (κ' 4) (κ' 5) (κ' 6) := C'.1
      have hJ : c_jn m (a + i) (μ' 2) (μ' 4) (μ' 3) (μ' 8) (κ' 11) (κ' 12) := C'.2.1
      generalize hκ1 : zUp (zUp κ' 1 1 0) 11 1 (a : Int) = κ1
      have oc : ∀ c, c ≠ 1 → c ≠ 11 → κ1 c = κ' c := fun c c1 c2 => by rw [← hκ1, zUp_ne c2, zUp_ne c1]
      have o1 : κ1 1 = zUp κ' 1 1 0 1 := by rw [← hκ1, zUp_ne (by decide)]
      have hJ' : c_jn m a (μ' 2) (μ' 4) (μ' 3) (μ' 8) (κ1 11) (κ1 12) := hJ.less (by omega) (by rw [← hκ1, zUp_at, q_up_at]) (oc 12 (by decide) (by decide))
      obtain ⟨κ2, r1, s1, f2⟩ := k_anew (κ := κ1) (a := a) (J := μ' 8) (by rw [oc 3 (by decide) (by decide), oc 4 (by decide) (by decide), oc 5 (by decide) (by decide), oc 6 (by decide) (by decide)]; exact hC) hJ'.1 hJ'.2.1 (by rw [oc 13 (by decide) (by decide)]; exact C'.2.2.1.2.1) hf' hj
      rw [r1, zC_V]
      refine fin κ2 ⟨?_, ?_, s1, ?_⟩ (fun c hc => by rw [f2 c (by omega), oc c (by omega) (by omega)]; exact lf.1.1 c (by omega)) (by rw [f2 1 (by decide), o1, zUp_at, q_up_at]) (by rw [f2 1 (by decide), o1, zUp_at, q_up_ne (by decide)]; exact v3)
      · show c_fd m dl (μ' 2) (μ' 4) (μ' 3) (κ2 3) (κ2 4) (κ2 5) (κ2 6)
        rw [f2 3 (by decide), f2 4 (by decide), f2 5 (by decide), f2 6 (by decide), oc 3 (by decide) (by decide), oc 4 (by decide) (by decide), oc 5 (by decide) (by decide), oc 6 (by decide) (by decide)]
        exact hC
      · show c_jn m a (μ' 2) (μ' 4) (μ' 3) (μ' 8) (κ2 11) (κ2 12)
        rw [f2 11 (by decide), f2 12 (by decide)]
        exact hJ'
      · rw [f2 32 (by decide), oc 32 (by decide) (by decide)]; exact C'.2.2.2
end TP
