/-! ===== the class's books: a sale, a quarter, the end ===== -/
theorem q_lbd {m dl : Nat} {B : Int} {s : Int → Int} {l : Int} (h : q_inv m dl B s) (hB0 : 0 ≤ B) (hB1 : B ≤ 900) (l0 : 0 ≤ l) (l1 : l < 8) : (0 ≤ s (54 + 4 * l) ∧ s (54 + 4 * l) ≤ 1000000000000) ∧ (0 ≤ s (54 + 4 * l + 1) ∧ s (54 + 4 * l + 1) ≤ 1000000000000) ∧ (0 ≤ s (54 + 4 * l + 2) ∧ s (54 + 4 * l + 2) ≤ 1000000000000) ∧ (0 ≤ s (54 + 4 * l + 3) ∧ s (54 + 4 * l + 3) ≤ 1000000000000) := by
  have := h.2.2.1.1 l.toNat (by omega)
  rw [Int.toNat_of_nonneg l0] at this
  omega
theorem q_lbd1 {m dl : Nat} {B : Int} {s : Int → Int} (h : q_inv m dl B s) (hB0 : 0 ≤ B) (hB1 : B ≤ 900) : (0 ≤ s 58 ∧ s 58 ≤ 1000000000000) ∧ (0 ≤ s 59 ∧ s 59 ≤ 1000000000000) := by
  have := q_lbd (l := 1) h hB0 hB1 (by decide) (by decide)
  exact ⟨this.1, this.2.1⟩
/-- measured and poured -/
theorem b_fill {m dl : Nat} {B : Int} {tm s : Int → Int} {ν : ZMem} {a l b sum : Int} (h : b_bk dl tm s ν) (hi : q_inv m dl B s) (hB0 : 0 ≤ B) (hB1 : B ≤ 900) (hl : b_ll a l) (hb : (b = 0 ∧ l ≠ 1) ∨ (b = 1 ∧ 1 < l)) (ht : q_tm tm) (hs0 : 0 ≤ sum) (hs1 : sum ≤ 99999) :
    ∃ ν1 ν', F_Books_measure a b sum ν = some (.inr none, ν1) ∧ F_Books_pour a ν1 = some (.inr none, ν') ∧ b_bk dl tm (q_fl tm l b sum s) ν' ∧ ν' 5 4 = q_fM tm l b sum s ∧ ν' 5 5 = sum - q_fM tm l b sum s := by
  have hl0 : 0 ≤ l ∧ l < 8 := by rcases hl with ⟨-, rfl⟩ | ⟨x, y, rfl⟩ <;> omega
  obtain ⟨x0, x1, x2, x3⟩ := q_lbd hi hB0 hB1 hl0.1 hl0.2
  obtain ⟨y0, y1⟩ := q_lbd1 hi hB0 hB1
  obtain ⟨ν1, r1, f1, g0, g1, g2, g3, g4, g5⟩ := b_measure h hl (hb.imp (fun x => x.1) (fun x => x.1)) ht hs0 hs1 x0 x1 x2 x3 y0 y1
  obtain ⟨ν', r2, f2, h2⟩ := b_pour (h.cells f1) hl hb hs0 hs1 x0 x1 y0 y1 g0 g1 g4 g5
  exact ⟨ν1, ν', r1, r2, h2, by rw [f2 5 (by decide)]; exact g4, by rw [f2 5 (by decide)]; exact g5⟩
theorem b_shift {dl : Nat} {tm s : Int → Int} {ν : ZMem} {f t j i : Int} (h : b_bk dl tm s ν) (hf : 0 ≤ f ∧ f < 24 ∧ j = 62 + f) (ht : 24 ≤ t ∧ t < 32 ∧ i = 30 + t) : ∃ ν', F_Books_shiftToBurden f t ν = some (.inr none, ν') ∧ ν' 5 = ν 5 ∧ b_bk dl tm (q_up (q_up s i (s i + s j)) j 0) ν' := by
  have e1 := h.2.1 f hf.1 hf.2.1
  have e2 := h.2.2.1 t ht.1 ht.2.1
  rw [← hf.2.2] at e1
  rw [← ht.2.2] at e2
  unfold F_Books_shiftToBurden
  simp (disch := omega) only [Int.add_zero, Int.mul_zero, Int.reduceMul, Int.reduceAdd, Int.mul_one, Int.tdiv_eq_ediv_of_nonneg, Int.tmod_eq_emod_of_nonneg, ↓reduceIte, ↓zLet_eq, ↓zRd_ok, ↓zWr_ok, ↓zC_V, ↓zC_I, ↓zC_J, zUp_at, zUp_ne, q_up_at, q_up_ne, w32_of, w64_of, q_le_T, q_le_F, q_lt_T, q_lt_F, q_eq_T, q_eq_F, true_or, or_true, or_false, false_or, false_and, and_false, e1, e2]
  exact ⟨_, rfl, by simp (disch := omega) only [zUp_ne], (h.setL (Or.inr ht)).setL (Or.inl hf)⟩
theorem b_sell_49 {m dl : Nat} {B : Int} {tm s : Int → Int} {ν : ZMem} {d M last : Int} (h : b_bk dl tm s ν) (hi : q_inv m dl B s) (ht : q_tm tm) (d0 : 0 ≤ d) (d1 : d < 6) (hM : ν 5 4 = M) (hM0 : 0 ≤ M) (hM1 : M ≤ 9999) (hl : last = 0 ∨ last = 1) :
    ∃ ν', J_Books_sellDeal_49 d last ν = some (.inr none, ν') ∧ ν' 5 = ν 5 ∧ b_bk dl tm (if last = 0 then q_sl3 tm M s else q_sl4 d (q_sl3 tm M s)) ν' := by
  obtain ⟨t0, t1, t2, t3, t4, t5, t6⟩ := h.tt
  obtain ⟨p0, p1, p2, p3⟩ := h.pu
  obtain ⟨-, -, -, -, -, ⟨c1, c2⟩, -⟩ := ht
  have hp := q_mb c1 c2 hM0 hM1
  have hcm : tm 5 * M = M * tm 5 := Int.mul_comm _ _
  unfold J_Books_sellDeal_49
  simp (disch := omega) only [Int.add_zero, Int.mul_zero, Int.reduceMul, Int.reduceAdd, Int.mul_one, Int.tdiv_eq_ediv_of_nonneg, Int.tmod_eq_emod_of_nonneg, ↓reduceIte, ↓zLet_eq, ↓zRd_ok, ↓zWr_ok, ↓zC_V, ↓zC_I, ↓zC_J, zUp_at, zUp_ne, q_up_at, q_up_ne, w32_of, w64_of, q_le_T, q_le_F, q_lt_T, q_lt_F, q_eq_T, q_eq_F, true_or, or_true, or_false, false_or, false_and, and_false, hM, t5, p0, p1, p2, hcm]
  have h1 := ((h.setP (k := 0) (v := s 86 + M) (by decide) (by decide)).setP (k := 2) (v := s 88 + M * tm 5 / 100) (by decide) (by decide)).setP (k := 1) (v := s 87 + (M - M * tm 5 / 100)) (by decide) (by decide)
  have h3 : b_bk dl tm (q_sl3 tm M s) (zUp (zUp (zUp ν 4 0 (s 86 + M)) 4 2 (s 88 + M * tm 5 / 100)) 4 1 (s 87 + (M - M * tm 5 / 100))) := h1.congr (fun k _ _ => by
    unfold q_sl3
    by_cases k1 : k = 86
    · subst k1; simp (disch := omega) only [Int.add_zero, Int.mul_zero, Int.reduceMul, Int.reduceAdd, Int.mul_one, Int.tdiv_eq_ediv_of_nonneg, Int.tmod_eq_emod_of_nonneg, ↓reduceIte, ↓zLet_eq, ↓zRd_ok, ↓zWr_ok, ↓zC_V, ↓zC_I, ↓zC_J, zUp_at, zUp_ne, q_up_at, q_up_ne, w32_of, w64_of, q_le_T, q_le_F, q_lt_T, q_lt_F, q_eq_T, q_eq_F, true_or, or_true, or_false, false_or, false_and, and_false]
    · by_cases k2 : k = 87
      · subst k2; simp (disch := omega) only [Int.add_zero, Int.mul_zero, Int.reduceMul, Int.reduceAdd, Int.mul_one, Int.tdiv_eq_ediv_of_nonneg, Int.tmod_eq_emod_of_nonneg, ↓reduceIte, ↓zLet_eq, ↓zRd_ok, ↓zWr_ok, ↓zC_V, ↓zC_I, ↓zC_J, zUp_at, zUp_ne, q_up_at, q_up_ne, w32_of, w64_of, q_le_T, q_le_F, q_lt_T, q_lt_F, q_eq_T, q_eq_F, true_or, or_true, or_false, false_or, false_and, and_false]
      · by_cases k3 : k = 88
        · subst k3; simp (disch := omega) only [Int.add_zero, Int.mul_zero, Int.reduceMul, Int.reduceAdd, Int.mul_one, Int.tdiv_eq_ediv_of_nonneg, Int.tmod_eq_emod_of_nonneg, ↓reduceIte, ↓zLet_eq, ↓zRd_ok, ↓zWr_ok, ↓zC_V, ↓zC_I, ↓zC_J, zUp_at, zUp_ne, q_up_at, q_up_ne, w32_of, w64_of, q_le_T, q_le_F, q_lt_T, q_lt_F, q_eq_T, q_eq_F, true_or, or_true, or_false, false_or, false_and, and_false]
        · simp (disch := omega) only [Int.add_zero, Int.mul_zero, Int.reduceMul, Int.reduceAdd, Int.mul_one, Int.tdiv_eq_ediv_of_nonneg, Int.tmod_eq_emod_of_nonneg, ↓reduceIte, ↓zLet_eq, ↓zRd_ok, ↓zWr_ok, ↓zC_V, ↓zC_I, ↓zC_J, zUp_at, zUp_ne, q_up_at, q_up_ne, w32_of, w64_of, q_le_T, q_le_F, q_lt_T, q_lt_F, q_eq_T, q_eq_F, true_or, or_true, or_false, false_or, false_and, and_false])
  generalize hν : zUp (zUp (zUp ν 4 0 (s 86 + M)) 4 2 (s 88 + M * tm 5 / 100)) 4 1 (s 87 + (M - M * tm 5 / 100)) = ν3 at *
  have e5 : ν3 5 = ν 5 := by rw [← hν]; simp (disch := omega) only [zUp_ne]
  rcases hl with rfl | rfl
  · simp (disch := omega) only [Int.add_zero, Int.mul_zero, Int.reduceMul, Int.reduceAdd, Int.mul_one, Int.tdiv_eq_ediv_of_nonneg, Int.tmod_eq_emod_of_nonneg, ↓reduceIte, ↓zLet_eq, ↓zRd_ok, ↓zWr_ok, ↓zC_V, ↓zC_I, ↓zC_J, zUp_at, zUp_ne, q_up_at, q_up_ne, w32_of, w64_of, q_le_T, q_le_F, q_lt_T, q_lt_F, q_eq_T, q_eq_F, true_or, or_true, or_false, false_or, false_and, and_false]
    exact ⟨ν3, rfl, e5, h3⟩
  · generalize q_sl3 tm M s = s3 at *
    simp (disch := omega) only [Int.add_zero, Int.mul_zero, Int.reduceMul, Int.reduceAdd, Int.mul_one, Int.tdiv_eq_ediv_of_nonneg, Int.tmod_eq_emod_of_nonneg, ↓reduceIte, ↓zLet_eq, ↓zRd_ok, ↓zWr_ok, ↓zC_V, ↓zC_I, ↓zC_J, zUp_at, zUp_ne, q_up_at, q_up_ne, w32_of, w64_of, q_le_T, q_le_F, q_lt_T, q_lt_F, q_eq_T, q_eq_F, true_or, or_true, or_false, false_or, false_and, and_false]
    obtain ⟨ν4, r4, f4, h4⟩ := b_shift (f := d * 4) (t := 28) (j := 54 + 4 * (2 + d)) (i := 58) (h3.setD (w := 3) (v := 1) d0 d1 (by decide) (by decide)) ⟨by omega, by omega, by omega⟩ ⟨by decide, by decide, by decide⟩
    rw [r4]
    simp only [↓zC_V]
    obtain ⟨ν5, r5, f5, h5⟩ := b_shift (f := d * 4 + 1) (t := 29) (j := 54 + 4 * (2 + d) + 1) (i := 59) h4 ⟨by omega, by omega, by omega⟩ ⟨by decide, by decide, by decide⟩
    rw [r5]
    simp only [↓zC_V]
    refine ⟨ν5, rfl, by rw [f5, f4, zUp_ne (by decide), e5], h5.congr (fun k _ _ => ?_)⟩
    unfold q_sl4
    by_cases k1 : k = 30 + 4 * d + 3
    · subst k1; simp (disch := omega) only [Int.add_zero, Int.mul_zero, Int.reduceMul, Int.reduceAdd, Int.mul_one, Int.tdiv_eq_ediv_of_nonneg, Int.tmod_eq_emod_of_nonneg, ↓reduceIte, ↓zLet_eq, ↓zRd_ok, ↓zWr_ok, ↓zC_V, ↓zC_I, ↓zC_J, zUp_at, zUp_ne, q_up_at, q_up_ne, w32_of, w64_of, q_le_T, q_le_F, q_lt_T, q_lt_F, q_eq_T, q_eq_F, true_or, or_true, or_false, false_or, false_and, and_false]
    · by_cases k2 : k = 58
      · subst k2; simp (disch := omega) only [Int.add_zero, Int.mul_zero, Int.reduceMul, Int.reduceAdd, Int.mul_one, Int.tdiv_eq_ediv_of_nonneg, Int.tmod_eq_emod_of_nonneg, ↓reduceIte, ↓zLet_eq, ↓zRd_ok, ↓zWr_ok, ↓zC_V, ↓zC_I, ↓zC_J, zUp_at, zUp_ne, q_up_at, q_up_ne, w32_of, w64_of, q_le_T, q_le_F, q_lt_T, q_lt_F, q_eq_T, q_eq_F, true_or, or_true, or_false, false_or, false_and, and_false]
      · by_cases k3 : k = 59
        · subst k3; simp (disch := omega) only [Int.add_zero, Int.mul_zero, Int.reduceMul, Int.reduceAdd, Int.mul_one, Int.tdiv_eq_ediv_of_nonneg, Int.tmod_eq_emod_of_nonneg, ↓reduceIte, ↓zLet_eq, ↓zRd_ok, ↓zWr_ok, ↓zC_V, ↓zC_I, ↓zC_J, zUp_at, zUp_ne, q_up_at, q_up_ne, w32_of, w64_of, q_le_T, q_le_F, q_lt_T, q_lt_F, q_eq_T, q_eq_F, true_or, or_true, or_false, false_or, false_and, and_false]
        · by_cases k4 : k = 54 + 4 * (2 + d)
          · subst k4; simp (disch := omega) only [Int.add_zero, Int.mul_zero, Int.reduceMul, Int.reduceAdd, Int.mul_one, Int.tdiv_eq_ediv_of_nonneg, Int.tmod_eq_emod_of_nonneg, ↓reduceIte, ↓zLet_eq, ↓zRd_ok, ↓zWr_ok, ↓zC_V, ↓zC_I, ↓zC_J, zUp_at, zUp_ne, q_up_at, q_up_ne, w32_of, w64_of, q_le_T, q_le_F, q_lt_T, q_lt_F, q_eq_T, q_eq_F, true_or, or_true, or_false, false_or, false_and, and_false]
          · by_cases k5 : k = 54 + 4 * (2 + d) + 1
            · subst k5; simp (disch := omega) only [Int.add_zero, Int.mul_zero, Int.reduceMul, Int.reduceAdd, Int.mul_one, Int.tdiv_eq_ediv_of_nonneg, Int.tmod_eq_emod_of_nonneg, ↓reduceIte, ↓zLet_eq, ↓zRd_ok, ↓zWr_ok, ↓zC_V, ↓zC_I, ↓zC_J, zUp_at, zUp_ne, q_up_at, q_up_ne, w32_of, w64_of, q_le_T, q_le_F, q_lt_T, q_lt_F, q_eq_T, q_eq_F, true_or, or_true, or_false, false_or, false_and, and_false]
            · simp (disch := omega) only [Int.add_zero, Int.mul_zero, Int.reduceMul, Int.reduceAdd, Int.mul_one, Int.tdiv_eq_ediv_of_nonneg, Int.tmod_eq_emod_of_nonneg, ↓reduceIte, ↓zLet_eq, ↓zRd_ok, ↓zWr_ok, ↓zC_V, ↓zC_I, ↓zC_J, zUp_at, zUp_ne, q_up_at, q_up_ne, w32_of, w64_of, q_le_T, q_le_F, q_lt_T, q_lt_F, q_eq_T, q_eq_F, true_or, or_true, or_false, false_or, false_and, and_false]
theorem b_sellDeal {m dl : Nat} {B : Int} {tm s : Int → Int} {ν : ZMem} {d sum last : Int} (h : b_bk dl tm s ν) (hi : q_inv m dl B s) (h6 : m ≤ 6) (hdl : dl ≤ 6) (hB0 : 0 ≤ B) (hB1 : B ≤ 800) (ht : q_tm tm) (d0 : 0 ≤ d) (d1 : d < dl) (hs0 : 0 ≤ sum) (hs1 : sum ≤ 9999) (hl : last = 0 ∨ last = 1) :
    ∃ ν', F_Books_sellDeal d sum last ν = some (.inr none, ν') ∧ b_bk dl tm (q_sb tm d sum last s) ν' ∧ ν' 5 4 = q_slM tm d sum s ∧ ν' 5 5 = sum - q_slM tm d sum s := by
  have hM := q_slM_in hi h6 hdl ht hB0 d0 d1 hs0 hs1
  have i1 := hi.sl1 h6 d0 (show d < 6 by omega) hs0 hs1
  have i2 := i1.fl h6 ht (by omega) (Or.inl ⟨rfl, rfl⟩) hdl hs0 hs1
  have i3 := hi.sl2 h6 hdl ht hB0 d0 d1 hs0 hs1
  have r0 := h.de (w := 1) d0 (by omega) (by decide) (by decide)
  have h1 : b_bk dl tm (q_sl1 d sum s) (zUp ν 3 (d * 4 + 1) (s (30 + 4 * d + 1) + sum)) := h.setD d0 (by omega) (by decide) (by decide)
  obtain ⟨ν1, ν2, m1, m2, h2, g4, g5⟩ := b_fill h1 i1 (by omega) (by omega) (Or.inl ⟨rfl, rfl⟩) (Or.inl ⟨rfl, by decide⟩) ht hs0 (by omega)
  unfold F_Books_sellDeal
  simp (disch := omega) only [↓zRd_ok, ↓zWr_ok, r0, w32_of]
  rw [m1]
  simp only [↓zC_V]
  rw [m2]
  simp only [↓zC_V]
  rw [b_isDealwise h2 ht]
  by_cases h3 : tm 3 = 1
  · rw [if_pos h3]
    simp (disch := omega) only [Int.add_zero, Int.mul_zero, Int.reduceMul, Int.reduceAdd, Int.mul_one, Int.tdiv_eq_ediv_of_nonneg, Int.tmod_eq_emod_of_nonneg, ↓reduceIte, ↓zLet_eq, ↓zRd_ok, ↓zWr_ok, ↓zC_V, ↓zC_I, ↓zC_J, zUp_at, zUp_ne, q_up_at, q_up_ne, w32_of, w64_of, q_le_T, q_le_F, q_lt_T, q_lt_F, q_eq_T, q_eq_F, true_or, or_true, or_false, false_or, false_and, and_false]
    obtain ⟨ν3, ν4, m3, m4, h4, g4', g5'⟩ := b_fill h2 i2 (by omega) (by omega) (a := d) (l := 2 + d) (b := 1) (Or.inr ⟨d0, by omega, rfl⟩) (Or.inr ⟨rfl, by omega⟩) ht hs0 (show sum ≤ 99999 by omega)
    rw [m3]
    simp only [↓zC_V]
    rw [m4]
    simp only [↓zC_V]
    have eM : q_fM tm (2 + d) 1 sum (q_fl tm 0 0 sum (q_sl1 d sum s)) = q_slM tm d sum s := (if_pos h3).symm
    have e2 : q_fl tm (2 + d) 1 sum (q_fl tm 0 0 sum (q_sl1 d sum s)) = q_sl2 tm d sum s := (if_pos h3).symm
    rw [eM] at g4' g5'
    rw [e2] at h4
    obtain ⟨ν5, r5, f5, h5⟩ := b_sell_49 h4 i3 ht d0 (by omega) g4' hM.1 (by omega) hl
    exact ⟨ν5, r5, h5, by rw [f5]; exact g4', by rw [f5]; exact g5'⟩
  · rw [if_neg h3]
    simp (disch := omega) only [Int.add_zero, Int.mul_zero, Int.reduceMul, Int.reduceAdd, Int.mul_one, Int.tdiv_eq_ediv_of_nonneg, Int.tmod_eq_emod_of_nonneg, ↓reduceIte, ↓zLet_eq, ↓zRd_ok, ↓zWr_ok, ↓zC_V, ↓zC_I, ↓zC_J, zUp_at, zUp_ne, q_up_at, q_up_ne, w32_of, w64_of, q_le_T, q_le_F, q_lt_T, q_lt_F, q_eq_T, q_eq_F, true_or, or_true, or_false, false_or, false_and, and_false]
    have eM : q_fM tm 0 0 sum (q_sl1 d sum s) = q_slM tm d sum s := (if_neg h3).symm
    have e2 : q_fl tm 0 0 sum (q_sl1 d sum s) = q_sl2 tm d sum s := (if_neg h3).symm
    rw [eM] at g4 g5
    rw [e2] at h2
    obtain ⟨ν5, r5, f5, h5⟩ := b_sell_49 h2 i3 ht d0 (by omega) g4 hM.1 (by omega) hl
    exact ⟨ν5, r5, h5, by rw [f5]; exact g4, by rw [f5]; exact g5⟩
theorem q_min_comm (a b : Int) : q_min a b = q_min b a := by
  unfold q_min
  split <;> split <;> omega
theorem b_pass {m dl : Nat} {B : Int} {tm s : Int → Int} {ν : ZMem} {fee : Int} (h : b_bk dl tm s ν) (hi : q_inv m dl B s) (hB0 : 0 ≤ B) (hB1 : B ≤ 900) (ht : q_tm tm) (hf0 : 0 ≤ fee) (hf1 : fee ≤ 59994) : ∃ ν', F_Books_pass fee ν = some (.inr none, ν') ∧ b_bk dl tm (q_qb tm fee s) ν' := by
  have htt := h.tt
  obtain ⟨t0, t1, t2, t3, t4, t5, t6⟩ := htt
  have htm := ht
  obtain ⟨⟨x1, x2⟩, -⟩ := htm
  have s1 : ∀ K : ZMem → Option ZRes, ∃ ν1, L_Books_pass_10 fee (tm 0) K zN 0 ν = K ν1 ∧ (∀ c, c ≠ 2 → ν1 c = ν c) ∧ (∀ k, 0 ≤ k → k < 32 → ν1 2 k = if k % 4 = 1 then q_min 1000000000 (ν 2 k + (ν 2 (k - 1) + ν 2 k) * tm 0 / 10000) else ν 2 k) := fun K => by
    have bd : ∀ j : Nat, j < 8 → (0 ≤ ν 2 (4 * j) ∧ ν 2 (4 * j) ≤ 1000000000000) ∧ (0 ≤ ν 2 (4 * j + 1) ∧ ν 2 (4 * j + 1) ≤ 1000000000000) := fun j hj => by
      by_cases hj6 : j < 6
      · have e0 := h.2.1 (4 * j) (by omega) (by omega)
        have e1 := h.2.1 (4 * j + 1) (by omega) (by omega)
        have hb := q_lbd (l := 2 + j) hi hB0 hB1 (by omega) (by omega)
        rw [e0, e1, show 62 + 4 * (j : Int) = 54 + 4 * (2 + j) by omega, show 62 + (4 * (j : Int) + 1) = 54 + 4 * (2 + j) + 1 by omega]
        exact ⟨hb.1, hb.2.1⟩
      · have e0 := h.2.2.1 (4 * j) (by omega) (by omega)
        have e1 := h.2.2.1 (4 * j + 1) (by omega) (by omega)
        have hb := q_lbd (l := j - 6) hi hB0 hB1 (by omega) (by omega)
        rw [e0, e1, show 30 + 4 * (j : Int) = 54 + 4 * (j - 6) by omega, show 30 + (4 * (j : Int) + 1) = 54 + 4 * (j - 6) + 1 by omega]
        exact ⟨hb.1, hb.2.1⟩
    obtain ⟨⟨v, ν1⟩, e, j, hv, hj, hf, h2⟩ := q_loop (L := fun n (a : Int × ZMem) => L_Books_pass_10 fee (tm 0) K n a.1 a.2) (P := fun k a => ∃ j : Nat, a.1 = 4 * j ∧ j + k = 8 ∧ (∀ c, c ≠ 2 → a.2 c = ν c) ∧ (∀ k, a.2 2 k = if 0 ≤ k ∧ k < 4 * j ∧ k % 4 = 1 then q_min 1000000000 (ν 2 k + (ν 2 (k - 1) + ν 2 k) * tm 0 / 10000) else ν 2 k)) (fun n k a hh => by
        obtain ⟨v, ν1⟩ := a
        obtain ⟨j, rfl, hj, hf, h2⟩ := hh
        simp only [] at hf h2 ⊢
        have a0 : ν1 2 (4 * j) = ν 2 (4 * j) := by rw [h2, if_neg (by omega)]
        have a1 : ν1 2 (4 * j + 1) = ν 2 (4 * j + 1) := by rw [h2, if_neg (by omega)]
        obtain ⟨bd0, bd1⟩ := bd j (by omega)
        have hp := q_mb (show 0 ≤ ν 2 (4 * j) + ν 2 (4 * j + 1) by omega) (show _ ≤ 2000000000000 by omega) x1 x2
        have step : ∀ ν2 : ZMem, (∀ c, c ≠ 2 → ν2 c = ν1 c) → ν2 2 = q_up (ν1 2) (4 * j + 1) (q_min 1000000000 (ν 2 (4 * j + 1) + (ν 2 (4 * j) + ν 2 (4 * j + 1)) * tm 0 / 10000)) → ∃ j' : Nat, 4 * (j : Int) + 4 = 4 * j' ∧ j' + k = 8 ∧ (∀ c, c ≠ 2 → ν2 c = ν c) ∧ (∀ k, ν2 2 k = if 0 ≤ k ∧ k < 4 * j' ∧ k % 4 = 1 then q_min 1000000000 (ν 2 k + (ν 2 (k - 1) + ν 2 k) * tm 0 / 10000) else ν 2 k) := fun ν2 hc hh => by
          refine ⟨j + 1, by omega, by omega, fun c c2 => by rw [hc c c2, hf c c2], fun k => ?_⟩
          rw [hh]
          unfold q_up
          by_cases ek : k = 4 * j + 1
          · subst ek
            rw [if_pos rfl, if_pos (by omega), show 4 * (j : Int) + 1 - 1 = 4 * j by omega]
          · rw [if_neg ek, h2]
            by_cases h3 : 0 ≤ k ∧ k < 4 * (j : Int) ∧ k % 4 = 1
            · rw [if_pos h3, if_pos (by omega)]
            · rw [if_neg h3, if_neg (by omega)]
        by_cases hz : ν 2 (4 * j) + ν 2 (4 * j + 1) ≤ 0
        · refine ⟨(4 * j + 4, ν1), ?_, step ν1 (fun _ _ => rfl) ?_⟩
          · simp (disch := omega) only [L_Books_pass_10, J_Books_pass_79, Int.add_zero, Int.mul_zero, Int.reduceMul, Int.reduceAdd, Int.mul_one, Int.tdiv_eq_ediv_of_nonneg, Int.tmod_eq_emod_of_nonneg, ↓reduceIte, ↓zLet_eq, ↓zRd_ok, ↓zWr_ok, ↓zC_V, ↓zC_I, ↓zC_J, zUp_at, zUp_ne, q_up_at, q_up_ne, w32_of, w64_of, q_le_T, q_le_F, q_lt_T, q_lt_F, q_eq_T, q_eq_F, true_or, or_true, or_false, false_or, false_and, and_false, a0, a1]
          · have z0 : ν 2 (4 * j) = 0 := by omega
            have z1 : ν 2 (4 * j + 1) = 0 := by omega
            rw [z0, z1]
            simp only [Int.add_zero, Int.zero_mul, Int.zero_ediv]
            funext k
            unfold q_up
            split
            · rename_i ek
              subst ek
              rw [a1, z1]
              simp [q_min]
            · rfl
        · refine ⟨(4 * j + 4, zUp ν1 2 (4 * j + 1) (q_min 1000000000 (ν 2 (4 * j + 1) + (ν 2 (4 * j) + ν 2 (4 * j + 1)) * tm 0 / 10000))), ?_, step _ (fun c hc => zUp_ne hc) (zUp_at _ _ _ _)⟩
          simp (disch := omega) only [L_Books_pass_10, J_Books_pass_79, Int.add_zero, Int.mul_zero, Int.reduceMul, Int.reduceAdd, Int.mul_one, Int.tdiv_eq_ediv_of_nonneg, Int.tmod_eq_emod_of_nonneg, ↓reduceIte, ↓zLet_eq, ↓zRd_ok, ↓zWr_ok, ↓zC_V, ↓zC_I, ↓zC_J, zUp_at, zUp_ne, q_up_at, q_up_ne, w32_of, w64_of, q_le_T, q_le_F, q_lt_T, q_lt_F, q_eq_T, q_eq_F, true_or, or_true, or_false, false_or, false_and, and_false, a0, a1, zminJ_eq]
          rw [q_min_comm]) 8 zN (0, ν) ⟨0, rfl, by omega, fun _ _ => rfl, fun k => by rw [if_neg (by omega)]⟩ (Nat.le_of_lt (zN_gt (by omega)))
    simp only [] at e hv hf h2
    obtain rfl : j = 8 := by omega
    refine ⟨ν1, ?_, hf, fun k k0 k1 => ?_⟩
    · rw [e, hv]
      obtain ⟨n, hn⟩ : ∃ n, zN - 8 = n + 1 := ⟨zN - 8 - 1, by have := zN_gt (m := 8) (by omega); omega⟩
      rw [hn]
      simp (disch := omega) only [L_Books_pass_10, Int.add_zero, Int.mul_zero, Int.reduceMul, Int.reduceAdd, Int.mul_one, Int.tdiv_eq_ediv_of_nonneg, Int.tmod_eq_emod_of_nonneg, ↓reduceIte, ↓zLet_eq, ↓zRd_ok, ↓zWr_ok, ↓zC_V, ↓zC_I, ↓zC_J, zUp_at, zUp_ne, q_up_at, q_up_ne, w32_of, w64_of, q_le_T, q_le_F, q_lt_T, q_lt_F, q_eq_T, q_eq_F, true_or, or_true, or_false, false_or, false_and, and_false]
    · rw [h2]
      by_cases h3 : k % 4 = 1
      · rw [if_pos h3, if_pos (by omega)]
      · rw [if_neg h3, if_neg (by omega)]
  unfold F_Books_pass
  rw [zRd_ok (by omega) (by omega) (by omega), t0]
  obtain ⟨ν1, r1, f1, g1⟩ := s1 (fun μ8 => zRd μ8 2 32 24 (fun x9 => zWr μ8 2 32 24 (x9 + fee) (fun μ10 => zC (F_Books_isDealwise  μ10) (zkI (fun x12 μ11 => if w32 x12 = 0 then (J_Books_pass_114 μ11) else (zRd μ11 2 32 28 (fun x14 => zWr μ11 2 32 28 (x14 + fee) (fun μ15 => J_Books_pass_114 μ15))))) zX0)))
  rw [r1]
  have hpf : b_bk dl tm (q_pf tm s) ν1 := by
    refine ⟨fun i k0 k1 => ?_, fun i k0 k1 => ?_, fun i k0 k1 => ?_, fun i k0 k1 => ?_, fun i k0 k1 => ?_, ?_, ?_, ?_⟩
    · rw [f1 1 (by decide)]; exact h.1 i k0 k1
    · rw [g1 i k0 (by omega), h.2.1 i k0 k1]
      unfold q_pf
      by_cases h4 : i % 4 = 1
      · rw [if_pos h4, if_pos (by omega), h.2.1 (i - 1) (by omega) (by omega), show 62 + (i - 1) = 62 + i - 1 by omega]
      · rw [if_neg h4, if_neg (by omega)]
    · rw [g1 i (by omega) (by omega), h.2.2.1 i k0 k1]
      unfold q_pf
      by_cases h4 : i % 4 = 1
      · rw [if_pos h4, if_pos (by omega), h.2.2.1 (i - 1) (by omega) (by omega), show 30 + (i - 1) = 30 + i - 1 by omega]
      · rw [if_neg h4, if_neg (by omega)]
    · rw [f1 3 (by decide), q_pf_at (by omega)]; exact h.2.2.2.1 i k0 k1
    · rw [f1 4 (by decide), q_pf_at (by omega)]; exact h.2.2.2.2.1 i k0 k1
    · rw [f1 0 (by decide)]; exact h.2.2.2.2.2.1
    · rw [f1 0 (by decide), q_pf_at (by omega)]; exact h.2.2.2.2.2.2.1
    · rw [f1 0 (by decide), q_pf_at (by omega)]; exact h.2.2.2.2.2.2.2
  have p54 : q_pf tm s 54 = s 54 := if_neg (by omega)
  have p58 : q_pf tm s 58 = s 58 := if_neg (by omega)
  obtain ⟨b24, -, b28, -⟩ := hpf.bu
  rw [p54] at b24
  rw [p58] at b28
  have e06 : ν1 0 6 = s 90 := by rw [f1 0 (by decide)]; exact h.2.2.2.2.2.2.1
  have h1 := hpf.setL (k := 24) (j := 54) (v := s 54 + fee) (Or.inr ⟨by decide, by decide, by decide⟩)
  rw [zRd_ok (by omega) (by omega) (by omega), zWr_ok (by omega) (by omega) (by omega), b24, b_isDealwise h1 ht]
  by_cases h3 : tm 3 = 1
  · rw [if_pos h3]
    unfold J_Books_pass_114
    simp (disch := omega) only [Int.add_zero, Int.mul_zero, Int.reduceMul, Int.reduceAdd, Int.mul_one, Int.tdiv_eq_ediv_of_nonneg, Int.tmod_eq_emod_of_nonneg, ↓reduceIte, ↓zLet_eq, ↓zRd_ok, ↓zWr_ok, ↓zC_V, ↓zC_I, ↓zC_J, zUp_at, zUp_ne, q_up_at, q_up_ne, w32_of, w64_of, q_le_T, q_le_F, q_lt_T, q_lt_F, q_eq_T, q_eq_F, true_or, or_true, or_false, false_or, false_and, and_false, b28, e06]
    have h2 := (h1.setL (k := 28) (j := 58) (v := s 58 + fee) (Or.inr ⟨by decide, by decide, by decide⟩)).setQ (v := s 90 + 1)
    refine ⟨_, rfl, h2.congr (fun k _ _ => ?_)⟩
    unfold q_qb
    by_cases k1 : k = 54
    · subst k1; simp (disch := omega) only [Int.add_zero, Int.mul_zero, Int.reduceMul, Int.reduceAdd, Int.mul_one, Int.tdiv_eq_ediv_of_nonneg, Int.tmod_eq_emod_of_nonneg, ↓reduceIte, ↓zLet_eq, ↓zRd_ok, ↓zWr_ok, ↓zC_V, ↓zC_I, ↓zC_J, zUp_at, zUp_ne, q_up_at, q_up_ne, w32_of, w64_of, q_le_T, q_le_F, q_lt_T, q_lt_F, q_eq_T, q_eq_F, true_or, or_true, or_false, false_or, false_and, and_false]
    · by_cases k2 : k = 58
      · subst k2; simp (disch := omega) only [Int.add_zero, Int.mul_zero, Int.reduceMul, Int.reduceAdd, Int.mul_one, Int.tdiv_eq_ediv_of_nonneg, Int.tmod_eq_emod_of_nonneg, ↓reduceIte, ↓zLet_eq, ↓zRd_ok, ↓zWr_ok, ↓zC_V, ↓zC_I, ↓zC_J, zUp_at, zUp_ne, q_up_at, q_up_ne, w32_of, w64_of, q_le_T, q_le_F, q_lt_T, q_lt_F, q_eq_T, q_eq_F, true_or, or_true, or_false, false_or, false_and, and_false, and_self]
      · by_cases k3 : k = 90
        · subst k3; simp (disch := omega) only [Int.add_zero, Int.mul_zero, Int.reduceMul, Int.reduceAdd, Int.mul_one, Int.tdiv_eq_ediv_of_nonneg, Int.tmod_eq_emod_of_nonneg, ↓reduceIte, ↓zLet_eq, ↓zRd_ok, ↓zWr_ok, ↓zC_V, ↓zC_I, ↓zC_J, zUp_at, zUp_ne, q_up_at, q_up_ne, w32_of, w64_of, q_le_T, q_le_F, q_lt_T, q_lt_F, q_eq_T, q_eq_F, true_or, or_true, or_false, false_or, false_and, and_false]
        · simp (disch := omega) only [Int.add_zero, Int.mul_zero, Int.reduceMul, Int.reduceAdd, Int.mul_one, Int.tdiv_eq_ediv_of_nonneg, Int.tmod_eq_emod_of_nonneg, ↓reduceIte, ↓zLet_eq, ↓zRd_ok, ↓zWr_ok, ↓zC_V, ↓zC_I, ↓zC_J, zUp_at, zUp_ne, q_up_at, q_up_ne, w32_of, w64_of, q_le_T, q_le_F, q_lt_T, q_lt_F, q_eq_T, q_eq_F, true_or, or_true, or_false, false_or, false_and, and_false]
  · rw [if_neg h3]
    unfold J_Books_pass_114
    simp (disch := omega) only [Int.add_zero, Int.mul_zero, Int.reduceMul, Int.reduceAdd, Int.mul_one, Int.tdiv_eq_ediv_of_nonneg, Int.tmod_eq_emod_of_nonneg, ↓reduceIte, ↓zLet_eq, ↓zRd_ok, ↓zWr_ok, ↓zC_V, ↓zC_I, ↓zC_J, zUp_at, zUp_ne, q_up_at, q_up_ne, w32_of, w64_of, q_le_T, q_le_F, q_lt_T, q_lt_F, q_eq_T, q_eq_F, true_or, or_true, or_false, false_or, false_and, and_false, e06]
    have h2 := h1.setQ (v := s 90 + 1)
    refine ⟨_, rfl, h2.congr (fun k _ _ => ?_)⟩
    unfold q_qb
    rw [if_neg (show ¬ (k = 58 ∧ tm 3 = 1) from fun hh => h3 hh.2)]
    by_cases k1 : k = 54
    · subst k1; simp (disch := omega) only [Int.add_zero, Int.mul_zero, Int.reduceMul, Int.reduceAdd, Int.mul_one, Int.tdiv_eq_ediv_of_nonneg, Int.tmod_eq_emod_of_nonneg, ↓reduceIte, ↓zLet_eq, ↓zRd_ok, ↓zWr_ok, ↓zC_V, ↓zC_I, ↓zC_J, zUp_at, zUp_ne, q_up_at, q_up_ne, w32_of, w64_of, q_le_T, q_le_F, q_lt_T, q_lt_F, q_eq_T, q_eq_F, true_or, or_true, or_false, false_or, false_and, and_false]
    · by_cases k3 : k = 90
      · subst k3; simp (disch := omega) only [Int.add_zero, Int.mul_zero, Int.reduceMul, Int.reduceAdd, Int.mul_one, Int.tdiv_eq_ediv_of_nonneg, Int.tmod_eq_emod_of_nonneg, ↓reduceIte, ↓zLet_eq, ↓zRd_ok, ↓zWr_ok, ↓zC_V, ↓zC_I, ↓zC_J, zUp_at, zUp_ne, q_up_at, q_up_ne, w32_of, w64_of, q_le_T, q_le_F, q_lt_T, q_lt_F, q_eq_T, q_eq_F, true_or, or_true, or_false, false_or, false_and, and_false]
      · simp (disch := omega) only [Int.add_zero, Int.mul_zero, Int.reduceMul, Int.reduceAdd, Int.mul_one, Int.tdiv_eq_ediv_of_nonneg, Int.tmod_eq_emod_of_nonneg, ↓reduceIte, ↓zLet_eq, ↓zRd_ok, ↓zWr_ok, ↓zC_V, ↓zC_I, ↓zC_J, zUp_at, zUp_ne, q_up_at, q_up_ne, w32_of, w64_of, q_le_T, q_le_F, q_lt_T, q_lt_F, q_eq_T, q_eq_F, true_or, or_true, or_false, false_or, false_and, and_false]
