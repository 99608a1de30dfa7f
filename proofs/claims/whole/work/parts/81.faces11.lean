/-! ===== faces: curves, rate ===== -/
/-- the lowest quarter so far; since when nothing is owed -/
def q_lw (g : Int → Int) : Nat → Int
  | 0 => -1
  | n + 1 => if q_lw g n = -1 then (n : Int) else if g (q_lw g n) ≤ g n then q_lw g n else (n : Int)
def q_sn (g : Int → Int) : Nat → Int
  | 0 => -1
  | n + 1 => if 0 ≤ g n then (if q_sn g n = -1 then (n : Int) else q_sn g n) else -1
def q_mw (g : Int → Int) : Nat → Int
  | 0 => 0
  | n + 1 => if g (q_mw g n) ≤ g n then q_mw g n else (n : Int)
def q_mdn (g : Int → Int) : Nat → Int
  | 0 => 0
  | n + 1 => if g n < 0 then (n : Int) + 1 else q_mdn g n
theorem q_mw_in (g : Int → Int) : ∀ n : Nat, 0 ≤ q_mw g n ∧ q_mw g n ≤ n
  | 0 => by rw [q_mw]; omega
  | n + 1 => by
    have := q_mw_in g n
    rw [q_mw]
    split <;> omega
theorem q_mdn_in (g : Int → Int) : ∀ n : Nat, 0 ≤ q_mdn g n ∧ q_mdn g n ≤ n
  | 0 => by rw [q_mdn]; omega
  | n + 1 => by
    have := q_mdn_in g n
    rw [q_mdn]
    split <;> omega
theorem q_lw_mw (g : Int → Int) : ∀ n : Nat, q_lw g (n + 1) = q_mw g (n + 1)
  | 0 => by
    rw [q_lw, q_lw, q_mw, q_mw, if_pos rfl]
    exact (if_pos (Int.le_refl _)).symm
  | n + 1 => by
    have e := q_lw_mw g n
    have b := q_mw_in g (n + 1)
    rw [q_lw, e, if_neg (by omega)]
    rfl
theorem q_sn_mdn (g : Int → Int) : ∀ n : Nat, q_sn g n = if q_mdn g n = n then -1 else q_mdn g n
  | 0 => by rw [q_sn, q_mdn]; rfl
  | n + 1 => by
    have e := q_sn_mdn g n
    have b := q_mdn_in g n
    rw [q_sn, q_mdn]
    by_cases h : 0 ≤ g n
    · rw [if_pos h, if_neg (by omega : ¬ g n < 0), e, if_neg (show ¬ q_mdn g n = ((n + 1 : Nat) : Int) by omega)]
      by_cases h2 : q_mdn g n = n
      · rw [if_pos h2, if_pos rfl, h2]
      · rw [if_neg h2, if_neg (by omega)]
    · rw [if_neg h, if_pos (by omega : g n < 0), if_pos (by omega)]
section FN
variable {m dl a : Nat} {B d sum : Int} {ex s : Int → Int} {κ μ ν : ZMem} {x y z : Int}
theorem m_curves47 {f : Int → Int} {Q : Nat} {c4 : Int} (hQ : Q ≤ 200) (hf : ∀ q : Nat, q ≤ Q → F_Model_curveAt q μ = some (.inr (some (zJ (q_sm f (q + 1)))), μ)) (K : Int → ZMem → Option ZRes) : L_Model_curves_47 x Q c4 K zN 0 0 μ = K (q_mw (fun q => w64 (q_sm f (q.toNat + 1))) (Q + 1)) μ := by
  obtain ⟨⟨u, v⟩, e, j, hv, hj, hu⟩ := q_loop (L := fun n (b : Int × Int) => L_Model_curves_47 x Q c4 K n b.1 b.2 μ) (P := fun i b => ∃ j : Nat, b.2 = j ∧ j + i = Q + 1 ∧ b.1 = q_mw (fun q => w64 (q_sm f (q.toNat + 1))) j) (fun n i b hb => by
      obtain ⟨u, v⟩ := b
      obtain ⟨j, rfl, hj, rfl⟩ := hb
      simp only []
      have b0 := q_mw_in (fun q => w64 (q_sm f (q.toNat + 1))) j
      refine ⟨(q_mw (fun q => w64 (q_sm f (q.toNat + 1))) (j + 1), (j : Int) + 1), ?_, j + 1, rfl, by omega, rfl⟩
      rw [q_mw]
      obtain ⟨k, hk⟩ := Int.eq_ofNat_of_zero_le b0.1
      have e1 := hf j (by omega)
      have e2 := hf k (by omega)
      rw [hk]
      rw [L_Model_curves_47, w32_of (by omega) (by omega), w32_of (by omega) (by omega), if_neg (by omega), e1, zC_J, e2, zC_J]
      simp only [Int.toNat_natCast]
      by_cases hc : w64 (q_sm f (k + 1)) ≤ w64 (q_sm f (j + 1))
      · rw [if_pos hc, if_pos hc]
        unfold J_Model_curves_71
        rw [zLet_eq]
      · rw [if_neg hc, if_neg hc]
        unfold J_Model_curves_71
        rw [zLet_eq]) (Q + 1) zN (0, 0) ⟨0, rfl, by omega, rfl⟩ (Nat.le_of_lt (zN_gt (by omega)))
  simp only [] at e hv hu
  obtain rfl : j = Q + 1 := by omega
  rw [e, hv, hu]
  obtain ⟨n, hn⟩ : ∃ n, zN - (Q + 1) = n + 1 := ⟨zN - (Q + 1) - 1, by have := zN_gt (m := Q + 1) (by omega); omega⟩
  rw [hn, L_Model_curves_47, w32_of (by omega) (by omega), w32_of (by omega) (by omega), if_pos (by omega)]
theorem m_curves77 {f : Int → Int} {Q : Nat} {c2 c3 : Int} (hQ : Q ≤ 200) (hf : ∀ q : Nat, q ≤ Q → F_Model_curveAt q μ = some (.inr (some (zJ (q_sm f (q + 1)))), μ)) (K : Int → ZMem → Option ZRes) : ∀ (n : Nat) (fu : Nat), n < fu → n ≤ Q + 1 → L_Model_curves_77 x c2 c3 K fu n μ = K (q_mdn (fun q => w64 (q_sm f (q.toNat + 1))) n) μ
  | 0, fu + 1, _, _ => by
    rw [L_Model_curves_77, q_mdn, w32_of (by omega) (by omega), if_pos (by omega)]
    rfl
  | n + 1, fu + 1, h, hn => by
    have e1 := hf n (by omega)
    have ec : ((n + 1 : Nat) : Int) - 1 = n := by omega
    have ed : ((n + 1 : Nat) : Int) + (-1) = n := by omega
    rw [L_Model_curves_77, q_mdn, w32_of (by omega) (by omega), if_neg (by omega), ec, e1, zC_J, zLet_eq, ed]
    have w0 : w64 0 = 0 := w64_of (by decide) (by decide)
    simp only [Int.toNat_natCast]
    by_cases hc : w64 (q_sm f (n + 1)) < 0
    · rw [if_pos (by rw [w0]; exact hc), if_pos hc]
      rfl
    · rw [if_neg (by rw [w0]; exact hc), if_neg hc]
      exact m_curves77 hQ hf K n fu (by omega) (by omega)
theorem k_curves31 {f : Int → Int} {Q : Nat} (hQ : Q ≤ 200) (h14 : κ 14 6 = Q) (hf : ∀ q : Nat, q ≤ Q → F_Trace_flow 6 q (zVw plT κ) = some (.inr (some (zJ (f q))), zVw plT κ)) (K : Int → Int → ZMem → Option ZRes) : L_Ledger_curves_31 x K zN 0 0 (-1) (-1) 0 κ = K (q_lw (fun q => w64 (q_sm f (q.toNat + 1))) (Q + 1)) (q_sn (fun q => w64 (q_sm f (q.toNat + 1))) (Q + 1)) κ := by
  have lb : ∀ n : Nat, -1 ≤ q_lw (fun q => w64 (q_sm f (q.toNat + 1))) n ∧ q_lw (fun q => w64 (q_sm f (q.toNat + 1))) n < n := fun n => by
    cases n with
    | zero => rw [q_lw]; omega
    | succ n =>
      rw [q_lw_mw]
      have := q_mw_in (fun q => w64 (q_sm f (q.toNat + 1))) n
      rw [q_mw]
      split <;> omega
  have sb : ∀ n : Nat, -1 ≤ q_sn (fun q => w64 (q_sm f (q.toNat + 1))) n ∧ q_sn (fun q => w64 (q_sm f (q.toNat + 1))) n ≤ n := fun n => by
    rw [q_sn_mdn]
    have := q_mdn_in (fun q => w64 (q_sm f (q.toNat + 1))) n
    split <;> omega
  obtain ⟨⟨v2, v4, v6, v7, v8⟩, e, j, h8, hj, h2, h4, h6, h7⟩ := q_loop (L := fun n (b : Int × Int × Int × Int × Int) => L_Ledger_curves_31 x K n b.1 b.2.1 b.2.2.1 b.2.2.2.1 b.2.2.2.2 κ) (P := fun i b => ∃ j : Nat, b.2.2.2.2 = j ∧ j + i = Q + 1 ∧ b.1 = q_sm f j ∧ (b.2.2.1 ≠ -1 → b.2.1 = q_sm f (b.2.2.1.toNat + 1)) ∧ b.2.2.1 = q_lw (fun q => w64 (q_sm f (q.toNat + 1))) j ∧ b.2.2.2.1 = q_sn (fun q => w64 (q_sm f (q.toNat + 1))) j) (fun n i b hb => by
      obtain ⟨v2, v4, v6, v7, v8⟩ := b
      obtain ⟨j, h8, hj, h2, h4, h6, h7⟩ := hb
      simp only [] at h8 h2 h4 h6 h7 ⊢
      subst h8
      subst h2
      have e1 := hf j (by omega)
      have l0 := lb j
      have s0 := sb j
      rw [← h6] at l0
      rw [← h7] at s0
      have es : q_sm f j + f j = q_sm f (j + 1) := rfl
      have w0 : w64 0 = 0 := w64_of (by decide) (by decide)
      have hstep : ∀ v4' v6', v6' = q_lw (fun q => w64 (q_sm f (q.toNat + 1))) (j + 1) → (v6' ≠ -1 → v4' = q_sm f (v6'.toNat + 1)) → ∃ b' : Int × Int × Int × Int × Int, J_Ledger_curves_83 (fun v2 v4 v6 v7 v8 μ => L_Ledger_curves_31 x K n v2 v4 v6 v7 v8 μ) K x (q_sm f (j + 1)) v4' v6' v7 j κ = L_Ledger_curves_31 x K n b'.1 b'.2.1 b'.2.2.1 b'.2.2.2.1 b'.2.2.2.2 κ ∧ ∃ j' : Nat, b'.2.2.2.2 = j' ∧ j' + i = Q + 1 ∧ b'.1 = q_sm f j' ∧ (b'.2.2.1 ≠ -1 → b'.2.1 = q_sm f (b'.2.2.1.toNat + 1)) ∧ b'.2.2.1 = q_lw (fun q => w64 (q_sm f (q.toNat + 1))) j' ∧ b'.2.2.2.1 = q_sn (fun q => w64 (q_sm f (q.toNat + 1))) j' := fun v4' v6' e6 e4 => by
        have esn : q_sn (fun q => w64 (q_sm f (q.toNat + 1))) (j + 1) = if 0 ≤ w64 (q_sm f (j + 1)) then (if v7 = -1 then (j : Int) else v7) else -1 := by
          rw [q_sn, ← h7]
          simp only [Int.toNat_natCast]
        refine ⟨(q_sm f (j + 1), v4', v6', q_sn (fun q => w64 (q_sm f (q.toNat + 1))) (j + 1), (j : Int) + 1), ?_, j + 1, rfl, by omega, rfl, e4, e6, rfl⟩
        rw [esn]
        unfold J_Ledger_curves_83 J_Ledger_curves_105
        rw [w0, w32_of (a := v7) (by omega) (by omega), w32_of (a := -1) (by decide) (by decide)]
        simp only [zLet_eq]
        by_cases hc : 0 ≤ w64 (q_sm f (j + 1))
        · rw [if_pos hc, if_pos hc]
          by_cases hv : v7 = -1
          · rw [if_pos hv, if_pos hv]
          · rw [if_neg hv, if_neg hv]
        · rw [if_neg hc, if_neg hc]
      have elw : q_lw (fun q => w64 (q_sm f (q.toNat + 1))) (j + 1) = if v6 = -1 then (j : Int) else if w64 (q_sm f (v6.toNat + 1)) ≤ w64 (q_sm f (j + 1)) then v6 else j := by
        rw [q_lw, ← h6]
        simp only [Int.toNat_natCast]
      rw [L_Ledger_curves_31, h14, w32_of (by omega) (by omega), w32_of (a := (j : Int)) (by omega) (by omega), if_neg (by omega), e1, zCm_J, zMg_vw, zLet_eq, es, w32_of (a := v6) (by omega) (by omega), w32_of (a := -1) (by decide) (by decide)]
      by_cases hv : v6 = -1
      · rw [if_pos hv]
        rw [if_pos hv] at elw
        unfold J_Ledger_curves_76
        exact hstep _ _ elw.symm (fun _ => by rw [Int.toNat_natCast])
      · rw [if_neg hv]
        rw [if_neg hv] at elw
        rw [h4 hv]
        by_cases hc : w64 (q_sm f (v6.toNat + 1)) ≤ w64 (q_sm f (j + 1))
        · rw [if_pos hc]
          rw [if_pos hc] at elw
          exact hstep _ _ elw.symm (fun _ => rfl)
        · rw [if_neg hc]
          rw [if_neg hc] at elw
          unfold J_Ledger_curves_76
          exact hstep _ _ elw.symm (fun _ => by rw [Int.toNat_natCast])) (Q + 1) zN (0, 0, -1, -1, 0) ⟨0, rfl, by omega, rfl, fun h => absurd rfl h, rfl, rfl⟩ (Nat.le_of_lt (zN_gt (by omega)))
  simp only [] at e h8 h2 h4 h6 h7
  obtain rfl : j = Q + 1 := by omega
  rw [e, h8, h6, h7]
  obtain ⟨n, hn⟩ : ∃ n, zN - (Q + 1) = n + 1 := ⟨zN - (Q + 1) - 1, by have := zN_gt (m := Q + 1) (by omega); omega⟩
  rw [hn, L_Ledger_curves_31, h14, w32_of (by omega) (by omega), w32_of (by omega) (by omega), if_pos (by omega)]
theorem face_curves (h : z_rest m dl a κ μ) (hx : q_i32 x) : z_face [(eNSE, 1)] m dl a κ μ (F_Ledger_curves x κ) (F_Model_curves x μ) := by
  obtain ⟨hf, h6, hdl, ht, ⟨m5, m6, m11, ha⟩, ⟨k3, k4, k11⟩, hi, hq, hs⟩ := h.all
  obtain ⟨M, C⟩ := h
  have hb : b_bk dl (μ 2) (μ 5) (zVw plNB κ) := hs.1.1
  have e6 : κ 14 6 = μ 5 90 := hb.2.2.2.2.2.2.1
  have w6 : zUp μ 0 0 0 6 = μ 6 := zUp_ne (by decide)
  have w7 : zUp μ 0 0 0 7 = μ 7 := zUp_ne (by decide)
  have w5 : zUp μ 0 0 0 5 = μ 5 := zUp_ne (by decide)
  obtain ⟨x1, x2⟩ := hx
  obtain ⟨Q, hQ⟩ := Int.eq_ofNat_of_zero_le hq.1
  by_cases gx : 0 ≤ x ∧ x ≤ 1
  · have fm : ∀ q : Nat, q ≤ Q → F_Model_curveAt q (zUp μ 0 0 0) = some (.inr (some (zJ (q_sm (q_nw m (μ 6) (μ 7) (-1)) (q + 1)))), zUp μ 0 0 0) := fun q hq' => by
      have em := m_curveAt (μ := zUp μ 0 0 0) (m := m) (q := q) (by rw [zUp_at, q_up_ne (by decide)]; exact m5) h6 (by omega)
      rw [w6, w7] at em
      exact em
    have fk : ∀ q : Nat, q ≤ Q → F_Trace_flow 6 q (zVw plT κ) = some (.inr (some (zJ (q_nw m (μ 6) (μ 7) (-1) q))), zVw plT κ) := fun q hq' => by
      have e := k_flow (ν := zVw plT κ) (i := 6) (q := q) (by decide) (by decide) (by omega) (by omega)
      have en : zVw plT κ 1 (6 * 201 + (q : Int)) = q_nw m (μ 6) (μ 7) (-1) q := k_net (x := -1) hs h6 (Or.inl rfl) (by omega) (by omega)
      rw [en] at e
      exact e
    have eC := k_curves31 (x := x) (by omega) (e6.trans hQ) fk (fun k6 k7 μ5 => if w32 x = 0 then some (.inr (some (zI k6)), μ5) else some (.inr (some (zI k7)), μ5))
    have eC' : F_Ledger_curves x κ = J_Ledger_curves_17 x κ := by
      unfold F_Ledger_curves
      by_cases w0 : x = 0
      · simp (disch := omega) only [Int.add_zero, Int.mul_zero, Int.reduceMul, Int.reduceAdd, Int.mul_one, Int.tdiv_eq_ediv_of_nonneg, Int.tmod_eq_emod_of_nonneg, ↓reduceIte, ↓zLet_eq, ↓zRd_ok, ↓zWr_ok, ↓zC_V, ↓zC_I, ↓zC_J, zUp_at, zUp_ne, q_up_at, q_up_ne, w32_of, w64_of, q_le_T, q_le_F, q_lt_T, q_lt_F, q_eq_T, q_eq_F, true_or, or_true, or_false, false_or, false_and, and_false]
      · simp (disch := omega) only [Int.add_zero, Int.mul_zero, Int.reduceMul, Int.reduceAdd, Int.mul_one, Int.tdiv_eq_ediv_of_nonneg, Int.tmod_eq_emod_of_nonneg, ↓reduceIte, ↓zLet_eq, ↓zRd_ok, ↓zWr_ok, ↓zC_V, ↓zC_I, ↓zC_J, zUp_at, zUp_ne, q_up_at, q_up_ne, w32_of, w64_of, q_le_T, q_le_F, q_lt_T, q_lt_F, q_eq_T, q_eq_F, true_or, or_true, or_false, false_or, false_and, and_false]
    rw [eC']
    unfold J_Ledger_curves_17
    rw [eC]
    have eM : F_Model_curves x μ = (if w32 x = 0 then (some (.inr (some (zI (q_mw (fun q => w64 (q_sm (q_nw m (μ 6) (μ 7) (-1)) (q.toNat + 1))) (Q + 1)))), zUp μ 0 0 0)) else (if w32 (q_mdn (fun q => w64 (q_sm (q_nw m (μ 6) (μ 7) (-1)) (q.toNat + 1))) (Q + 1)) ≤ w32 Q then (some (.inr (some (zI (q_mdn (fun q => w64 (q_sm (q_nw m (μ 6) (μ 7) (-1)) (q.toNat + 1))) (Q + 1)))), zUp μ 0 0 0)) else (some (.inr (some (zI (-1))), zUp μ 0 0 0)))) := by
      unfold F_Model_curves J_Model_curves_16
      rw [w32_of x1 x2, z_isInY gx.1 gx.2 (by decide) (by decide), zC_I, w32_of (by decide) (by decide), if_neg (by decide), zLet_eq, zUp_at, q_up_at, w32_of (by decide) (by decide), if_pos (by decide), zRd_ok (by decide) (by decide) (by decide), w5, hQ, zLet_eq, m_curves47 (by omega) fm]
      exact m_curves77 (by omega) fm _ (Q + 1) zN (zN_gt (by omega)) (by omega)
    rw [eM, q_lw_mw, q_sn_mdn]
    have b := q_mdn_in (fun q => w64 (q_sm (q_nw m (μ 6) (μ 7) (-1)) (q.toNat + 1))) (Q + 1)
    generalize q_mdn (fun q => w64 (q_sm (q_nw m (μ 6) (μ 7) (-1)) (q.toNat + 1))) (Q + 1) = v at *
    rw [w32_of x1 x2, w32_of (by omega) (by omega), w32_of (by omega) (by omega)]
    by_cases w0 : x = 0
    · exact z_face.ok0 M (if_pos w0) (if_pos w0) (c_fr.rf κ)
    · by_cases hv : v ≤ Q
      · refine z_face.ok0 (v := zI v) M ?_ ?_ (c_fr.rf κ)
        · rw [if_neg w0, if_neg (by omega)]
        · rw [if_neg w0, if_pos hv]
      · refine z_face.ok0 (v := zI (-1)) M ?_ ?_ (c_fr.rf κ)
        · rw [if_neg w0, if_pos (by omega)]
        · rw [if_neg w0, if_neg hv]
  · refine z_face.th (v := zI 0) (E := eNSE) (n := 1) M ?_ ?_ (by decide) (by decide +kernel)
    · unfold F_Ledger_curves
      simp (disch := omega) only [Int.add_zero, Int.mul_zero, Int.reduceMul, Int.reduceAdd, Int.mul_one, Int.tdiv_eq_ediv_of_nonneg, Int.tmod_eq_emod_of_nonneg, ↓reduceIte, ↓zLet_eq, ↓zRd_ok, ↓zWr_ok, ↓zC_V, ↓zC_I, ↓zC_J, zUp_at, zUp_ne, q_up_at, q_up_ne, w32_of, w64_of, q_le_T, q_le_F, q_lt_T, q_lt_F, q_eq_T, q_eq_F, true_or, or_true, or_false, false_or, false_and, and_false]
    · unfold F_Model_curves J_Model_curves_16
      simp (disch := omega) only [Int.add_zero, Int.mul_zero, Int.reduceMul, Int.reduceAdd, Int.mul_one, Int.tdiv_eq_ediv_of_nonneg, Int.tmod_eq_emod_of_nonneg, ↓reduceIte, ↓zLet_eq, ↓zRd_ok, ↓zWr_ok, ↓zC_V, ↓zC_I, ↓zC_J, zUp_at, zUp_ne, q_up_at, q_up_ne, w32_of, w64_of, q_le_T, q_le_F, q_lt_T, q_lt_F, q_eq_T, q_eq_F, true_or, or_true, or_false, false_or, false_and, and_false, z_isInN]
end FN
