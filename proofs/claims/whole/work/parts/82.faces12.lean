/-! ===== face: rate ===== -/
def q_st (r : Int) : UInt64 := FP.dadd FP.dconst1 (FP.ddiv (zi2d r) 4666723172467343360)
/-- what the flows are worth at a rate, from the last quarter down -/
def q_fw (st : UInt64) (f : Int → Int) : Nat → UInt64 → UInt64
  | 0, v => v
  | n + 1, v => q_fw st f n (FP.dadd (FP.ddiv v st) (zl2d (f n)))
section FO
variable {m dl a : Nat} {B d sum : Int} {ex s : Int → Int} {κ μ ν : ZMem} {x y z : Int}
theorem fw_div {v st : UInt64} (hv : zn64 v = true) (h1 : st &&& 0x7fffffffffffffff < 0x7ff0000000000000) (h2 : st &&& 0x7fffffffffffffff ≠ 0) : zn64 (FP.ddiv v st) = true := decide_eq_true (fq_ddiv (of_decide_eq_true hv) h1 h2)
theorem fw_add {v : UInt64} {k : Int} (hv : zn64 v = true) : zn64 (FP.dadd v (zl2d k)) = true := decide_eq_true (fq_dadd (of_decide_eq_true hv) (fq_l2d _))
theorem fw_rate (r : Int) : zn64 (FP.ddiv (zi2d r) 4666723172467343360) = true := decide_eq_true (fq_ddiv (fq_fin (fq_i2d _)) (by decide) (by decide))
theorem fw_step (r : Nat) (h : r < 1000) : (q_st r &&& 0x7fffffffffffffff < 0x7ff0000000000000) ∧ q_st r &&& 0x7fffffffffffffff ≠ 0 := fq_step r h
theorem fw_one (r : Nat) (h : r < 1000) : zn64 (FP.dadd FP.dconst1 (FP.ddiv (zi2d r) 4666723172467343360)) = true := decide_eq_true (fq_fin (fw_step r h).1)
theorem k_worth {f : Int → Int} {c1 : Int} {st : UInt64} (c0 : 0 ≤ c1) (c6 : c1 < 7) (h1 : st &&& 0x7fffffffffffffff < 0x7ff0000000000000) (h2 : st &&& 0x7fffffffffffffff ≠ 0) (hf : ∀ q : Nat, q < 201 → ν 1 (c1 * 201 + q) = f q) (K : UInt64 → Option ZRes) : ∀ (n fu : Nat) (v : UInt64), n < fu → n ≤ 201 → zn64 v = true → L_Trace_worth_16 c1 st ν K fu v ((n : Int) - 1) = K (q_fw st f n v)
  | 0, fu + 1, v, _, _, _ => by
    rw [L_Trace_worth_16, w32_of (by omega) (by omega), if_pos (by omega)]
    rfl
  | n + 1, fu + 1, v, h, hn, hv => by
    have e : ((n + 1 : Nat) : Int) - 1 = n := by omega
    have ed : (n : Int) + (-1) = (n : Int) - 1 := by omega
    have hd := fw_div hv h1 h2
    rw [L_Trace_worth_16, e, w32_of (by omega) (by omega), if_neg (by omega), zddiv_ok hd, zRd_ok (by omega) (by omega) (by omega), hf n (by omega), zdadd_ok (fw_add hd), zLet_eq, ed]
    exact k_worth c0 c6 h1 h2 hf K n fu _ (by omega) (by omega) (fw_add hd)
theorem m_rate56 {f : Int → Int} {r : Nat} (hr : r < 1000) (hf : ∀ q : Nat, q < 201 → F_Model_flowIn x q μ = some (.inr (some (zJ (f q))), μ)) (K : UInt64 → ZMem → Option ZRes) : ∀ (n fu : Nat) (v : UInt64), n < fu → n ≤ 201 → zn64 v = true → L_Model_rate_56 x r K fu v ((n : Int) - 1) μ = K (q_fw (q_st r) f n v) μ
  | 0, fu + 1, v, _, _, _ => by
    rw [L_Model_rate_56, w32_of (by omega) (by omega), if_pos (by omega)]
    rfl
  | n + 1, fu + 1, v, h, hn, hv => by
    have e : ((n + 1 : Nat) : Int) - 1 = n := by omega
    have ed : (n : Int) + (-1) = (n : Int) - 1 := by omega
    have hd := fw_div hv (fw_step r hr).1 (fw_step r hr).2
    rw [L_Model_rate_56, e, w32_of (by omega) (by omega), if_neg (by omega), zddiv_ok (fw_rate _), zdadd_ok (fw_one r hr)]
    rw [show FP.dadd FP.dconst1 (FP.ddiv (zi2d r) 4666723172467343360) = q_st r from rfl, zddiv_ok hd, hf n (by omega), zC_J, zdadd_ok (fw_add hd), zLet_eq, ed]
    exact m_rate56 hr hf K n fu _ (by omega) (by omega) (fw_add hd)
theorem z_rates {f : Int → Int} {c1 : Int} {Q : Nat} (c0 : 0 ≤ c1) (c6 : c1 < 7) (hQ : Q ≤ 200) (h14 : κ 14 6 = Q) (h90 : μ 5 90 = Q) (hk : ∀ q : Nat, q < 201 → zVw plT κ 1 (c1 * 201 + q) = f q) (hf : ∀ q : Nat, q < 201 → F_Model_flowIn x q μ = some (.inr (some (zJ (f q))), μ)) : ∀ (n fu fu' : Nat), n < fu → n < fu' → n ≤ 1000 → ∃ r, L_Ledger_rate_37 c1 (fun μ4 => some (.inr (some (zI (-1))), μ4)) fu ((n : Int) - 1) κ = some (.inr (some (zI r)), κ) ∧ L_Model_rate_40 x (fun μ15 => some (.inr (some (zI (-1))), μ15)) fu' ((n : Int) - 1) μ = some (.inr (some (zI r)), μ)
  | 0, fu + 1, fu' + 1, _, _, _ => by
    refine ⟨-1, ?_, ?_⟩
    · rw [L_Ledger_rate_37, w32_of (by omega) (by omega), if_pos (by omega)]
    · rw [L_Model_rate_40, w32_of (by omega) (by omega), if_pos (by omega)]
  | n + 1, fu + 1, fu' + 1, h, h', hn => by
    have e : ((n + 1 : Nat) : Int) - 1 = n := by omega
    have ed : (n : Int) + (-1) = (n : Int) - 1 := by omega
    have eq1 : ((Q + 1 : Nat) : Int) - 1 = Q := by omega
    have z0 : zn64 FP.dconst0 = true := by decide
    have ew : F_Trace_worth c1 Q n (zVw plT κ) = some (.inr (some (zD (q_fw (q_st n) f (Q + 1) FP.dconst0))), zVw plT κ) := by
      unfold F_Trace_worth
      rw [zddiv_ok (fw_rate _), zdadd_ok (fw_one n (by omega))]
      have := k_worth (ν := zVw plT κ) (st := q_st n) c0 c6 (fw_step n (by omega)).1 (fw_step n (by omega)).2 hk (fun k7 => some (.inr (some (zD k7)), zVw plT κ)) (Q + 1) zN FP.dconst0 (zN_gt (by omega)) (by omega) z0
      rw [eq1] at this
      exact this
    have em : ∀ K : UInt64 → ZMem → Option ZRes, L_Model_rate_56 x n K zN FP.dconst0 Q μ = K (q_fw (q_st n) f (Q + 1) FP.dconst0) μ := fun K => by
      have := m_rate56 (x := x) (r := n) (by omega) hf K (Q + 1) zN FP.dconst0 (zN_gt (by omega)) (by omega) z0
      rw [eq1] at this
      exact this
    rw [L_Ledger_rate_37, L_Model_rate_40, e, w32_of (by omega) (by omega), if_neg (by omega), if_neg (by omega), h14, ew, zCm_D, zMg_vw, zRd_ok (by decide) (by decide) (by decide), h90, em, zLet_eq, zLet_eq, ed]
    by_cases hc : w32 (zdcmp .l (q_fw (q_st n) f (Q + 1) FP.dconst0) FP.dconst0) < 0
    · rw [if_pos hc, if_pos hc]
      exact z_rates c0 c6 hQ h14 h90 hk hf n fu fu' (by omega) (by omega) (by omega)
    · rw [if_neg hc, if_neg hc]
      exact ⟨n, rfl, rfl⟩
theorem face_rate (h : z_rest m dl a κ μ) (hx : q_i32 x) : z_face [(eIOB, 1)] m dl a κ μ (F_Ledger_rate x κ) (F_Model_rate x μ) := by
  obtain ⟨hf, h6, hdl, ht, ⟨m5, m6, m11, ha⟩, ⟨k3, k4, k11⟩, hi, hq, hs⟩ := h.all
  obtain ⟨M, C⟩ := h
  have hb : b_bk dl (μ 2) (μ 5) (zVw plNB κ) := hs.1.1
  have e6 : κ 14 6 = μ 5 90 := hb.2.2.2.2.2.2.1
  have w6 : zUp μ 0 0 0 6 = μ 6 := zUp_ne (by decide)
  have w7 : zUp μ 0 0 0 7 = μ 7 := zUp_ne (by decide)
  have w5 : zUp μ 0 0 0 5 = μ 5 := zUp_ne (by decide)
  have hxx := hx
  obtain ⟨x1, x2⟩ := hxx
  obtain ⟨Q, hQ⟩ := Int.eq_ofNat_of_zero_le hq.1
  by_cases gx : x = -1 ∨ (0 ≤ x ∧ x < m)
  · obtain ⟨r, e1, e2⟩ := z_rates (κ := κ) (μ := zUp μ 0 0 0) (x := x) (f := q_nw m (μ 6) (μ 7) x) (c1 := if x = -1 then 6 else x) (Q := Q) (by split <;> omega) (by split <;> omega) (by omega) (e6.trans hQ) (by rw [w5]; exact hQ) (fun q hq' => k_net (x := x) hs h6 gx (by omega) (by omega)) (fun q hq' => by
        have := m_flowIn (μ := zUp μ 0 0 0) (m := m) (x := x) (q := q) (by rw [zUp_at, q_up_ne (by decide)]; exact m5) h6 gx (by omega) (by omega)
        rw [w6, w7] at this
        exact this) 1000 zN zN (zN_gt (by decide)) (zN_gt (by decide)) (Nat.le_refl _)
    have e999 : ((1000 : Nat) : Int) - 1 = 999 := by decide
    rw [e999] at e1 e2
    refine z_face.ok0 (v := zI r) M ?_ ?_ (c_fr.rf κ)
    · unfold F_Ledger_rate J_Ledger_rate_21 J_Ledger_rate_32
      by_cases e : x = -1
      · rw [if_pos e] at e1
        rw [w32_of x1 x2, w32_of (by decide) (by decide), if_pos e, if_pos e]
        exact e1
      · rw [if_neg e] at e1
        have eX := kY_inv k3 h6 (x := x) (by omega) (by omega)
        rw [w32_of x1 x2, w32_of (a := -1) (by decide) (by decide), if_neg e, eX, zC_I, w32_of (by decide) (by decide), if_neg (by decide), if_neg e]
        exact e1
    · unfold F_Model_rate J_Model_rate_24
      rw [w32_of x1 x2, w32_of (by omega) (by omega), z_isInY (by omega) (by omega) (by decide) (by omega), zC_I, w32_of (by decide) (by decide), if_neg (by decide), zLet_eq, zUp_at, q_up_at, w32_of (by decide) (by decide), if_pos (by decide)]
      exact e2
  · refine z_face.th (v := zI 0) (E := eIOB) (n := 1) M ?_ ?_ (by decide) (by decide +kernel)
    · have eX := kN_inv k3 h6 hx (by omega)
      unfold F_Ledger_rate
      simp (disch := omega) only [Int.add_zero, Int.mul_zero, Int.reduceMul, Int.reduceAdd, Int.mul_one, Int.tdiv_eq_ediv_of_nonneg, Int.tmod_eq_emod_of_nonneg, ↓reduceIte, ↓zLet_eq, ↓zRd_ok, ↓zWr_ok, ↓zC_V, ↓zC_I, ↓zC_J, zUp_at, zUp_ne, q_up_at, q_up_ne, w32_of, w64_of, q_le_T, q_le_F, q_lt_T, q_lt_F, q_eq_T, q_eq_F, true_or, or_true, or_false, false_or, false_and, and_false, eX]
    · unfold F_Model_rate J_Model_rate_24
      simp (disch := omega) only [Int.add_zero, Int.mul_zero, Int.reduceMul, Int.reduceAdd, Int.mul_one, Int.tdiv_eq_ediv_of_nonneg, Int.tmod_eq_emod_of_nonneg, ↓reduceIte, ↓zLet_eq, ↓zRd_ok, ↓zWr_ok, ↓zC_V, ↓zC_I, ↓zC_J, zUp_at, zUp_ne, q_up_at, q_up_ne, w32_of, w64_of, q_le_T, q_le_F, q_lt_T, q_lt_F, q_eq_T, q_eq_F, true_or, or_true, or_false, false_or, false_and, and_false, z_isInN]
end FO
