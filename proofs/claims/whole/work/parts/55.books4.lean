/-! ===== the class's books: clawback, the end, all sold, copies ===== -/
theorem b_dueNow {m dl : Nat} {B : Int} {tm s : Int → Int} {ν : ZMem} (h : b_bk dl tm s ν) (hi : q_inv m dl B s) (hB0 : 0 ≤ B) (hB1 : B ≤ 900) : F_Books_dueNow ν = some (.inr (some (zJ (q_due s))), ν) := by
  obtain ⟨p0, p1, p2, p3⟩ := h.pu
  obtain ⟨-, b27, -, -⟩ := h.bu
  have h1 := hi.2.2.2.1
  unfold q_iP at h1
  have h2 := (q_lbd (l := 0) hi hB0 hB1 (by decide) (by decide)).2.2.2
  have e57 : 54 + 4 * (0 : Int) + 3 = 57 := rfl
  rw [e57] at h2
  unfold F_Books_dueNow
  simp (disch := omega) only [Int.add_zero, Int.mul_zero, Int.reduceMul, Int.reduceAdd, Int.mul_one, Int.tdiv_eq_ediv_of_nonneg, Int.tmod_eq_emod_of_nonneg, ↓reduceIte, ↓zLet_eq, ↓zRd_ok, ↓zWr_ok, ↓zC_V, ↓zC_I, ↓zC_J, zUp_at, zUp_ne, q_up_at, q_up_ne, w32_of, w64_of, q_le_T, q_le_F, q_lt_T, q_lt_F, q_eq_T, q_eq_F, true_or, or_true, or_false, false_or, false_and, and_false, p0, b27, zmaxJ_eq]
  rfl
theorem b_clawFromOut {m dl : Nat} {B x : Int} {tm s : Int → Int} {ν : ZMem} (h : b_bk dl tm s ν) (hi : q_inv m dl B s) (hB0 : 0 ≤ B) (hB1 : B ≤ 900) (ht : q_tm tm) (hx0 : 0 ≤ x) (hx1 : x ≤ 1000000000000) : F_Books_clawFromOut x ν = some (.inr (some (zJ (q_min x (s 87 - s 87 * tm 4 / 100)))), ν) := by
  obtain ⟨p0, p1, p2, p3⟩ := h.pu
  obtain ⟨t0, t1, t2, t3, t4, t5, t6⟩ := h.tt
  have h1 := hi.2.2.2.1
  unfold q_iP at h1
  obtain ⟨-, -, -, -, ⟨c1, c2⟩, -⟩ := ht
  have hp := q_mb c1 c2 (show 0 ≤ s 87 by omega) (show s 87 ≤ 1000000000 * 900 by omega)
  have hcm : tm 4 * s 87 = s 87 * tm 4 := Int.mul_comm _ _
  unfold F_Books_clawFromOut
  simp (disch := omega) only [Int.add_zero, Int.mul_zero, Int.reduceMul, Int.reduceAdd, Int.mul_one, Int.tdiv_eq_ediv_of_nonneg, Int.tmod_eq_emod_of_nonneg, ↓reduceIte, ↓zLet_eq, ↓zRd_ok, ↓zWr_ok, ↓zC_V, ↓zC_I, ↓zC_J, zUp_at, zUp_ne, q_up_at, q_up_ne, w32_of, w64_of, q_le_T, q_le_F, q_lt_T, q_lt_F, q_eq_T, q_eq_F, true_or, or_true, or_false, false_or, false_and, and_false, p1, t4, zminJ_eq]
  rw [hcm]
theorem b_clawDue {m dl : Nat} {B : Int} {tm s : Int → Int} {ν : ZMem} (h : b_bk dl tm s ν) (hi : q_inv m dl B s) (hB0 : 0 ≤ B) (hB1 : B ≤ 900) (ht : q_tm tm) : F_Books_clawDue ν = some (.inr (some (zJ (q_cw tm s))), ν) := by
  obtain ⟨p0, p1, p2, p3⟩ := h.pu
  have e7 := h.2.2.2.2.2.2.2
  have h1 := hi.2.2.2.1
  unfold q_iP at h1
  have hc := hi.cw ht
  unfold F_Books_clawDue q_cw
  by_cases h91 : s 91 = 1
  · simp (disch := omega) only [Int.add_zero, Int.mul_zero, Int.reduceMul, Int.reduceAdd, Int.mul_one, Int.tdiv_eq_ediv_of_nonneg, Int.tmod_eq_emod_of_nonneg, ↓reduceIte, ↓zLet_eq, ↓zRd_ok, ↓zWr_ok, ↓zC_V, ↓zC_I, ↓zC_J, zUp_at, zUp_ne, q_up_at, q_up_ne, w32_of, w64_of, q_le_T, q_le_F, q_lt_T, q_lt_F, q_eq_T, q_eq_F, true_or, or_true, or_false, false_or, false_and, and_false]
  · simp (disch := omega) only [Int.add_zero, Int.mul_zero, Int.reduceMul, Int.reduceAdd, Int.mul_one, Int.tdiv_eq_ediv_of_nonneg, Int.tmod_eq_emod_of_nonneg, ↓reduceIte, ↓zLet_eq, ↓zRd_ok, ↓zWr_ok, ↓zC_V, ↓zC_I, ↓zC_J, zUp_at, zUp_ne, q_up_at, q_up_ne, w32_of, w64_of, q_le_T, q_le_F, q_lt_T, q_lt_F, q_eq_T, q_eq_F, true_or, or_true, or_false, false_or, false_and, and_false, b_dueNow h hi hB0 hB1, p2, zminJ_eq]
    have eh : q_min (s 88) (q_due s) = q_hl s := rfl
    rw [eh, b_clawFromOut h hi hB0 hB1 ht (by omega) (by omega)]
    rfl
theorem b_settle {m dl : Nat} {B : Int} {tm s : Int → Int} {ν : ZMem} (h : b_bk dl tm s ν) (hi : q_inv m dl B s) (hB0 : 0 ≤ B) (hB1 : B ≤ 900) (ht : q_tm tm) : ∃ ν', F_Books_settle ν = some (.inr (some (zJ (q_hl s + q_ou tm s))), ν') ∧ b_bk dl tm (q_en tm s) ν' := by
  obtain ⟨p0, p1, p2, p3⟩ := h.pu
  have h1 := hi.2.2.2.1
  unfold q_iP at h1
  have hc := hi.cw ht
  have eh : q_min (s 88) (q_due s) = q_hl s := rfl
  unfold F_Books_settle
  simp (disch := omega) only [b_dueNow h hi hB0 hB1, ↓zC_J, ↓zRd_ok, p2, zLet_eq, zminJ_eq, eh]
  rw [b_clawFromOut h hi hB0 hB1 ht (by omega) (by omega)]
  have eo : q_min (q_due s - q_hl s) (s 87 - s 87 * tm 4 / 100) = q_ou tm s := rfl
  rw [eo]
  simp (disch := omega) only [Int.add_zero, Int.mul_zero, Int.reduceMul, Int.reduceAdd, Int.mul_one, Int.tdiv_eq_ediv_of_nonneg, Int.tmod_eq_emod_of_nonneg, ↓reduceIte, ↓zLet_eq, ↓zRd_ok, ↓zWr_ok, ↓zC_V, ↓zC_I, ↓zC_J, zUp_at, zUp_ne, q_up_at, q_up_ne, w32_of, w64_of, q_le_T, q_le_F, q_lt_T, q_lt_F, q_eq_T, q_eq_F, true_or, or_true, or_false, false_or, false_and, and_false, p1, p2, p3]
  have h2 := (((h.setP (k := 3) (v := s 89 + (q_hl s + q_ou tm s)) (by decide) (by decide)).setP (k := 1) (v := s 87 + (s 88 - q_hl s - q_ou tm s)) (by decide) (by decide)).setP (k := 2) (v := 0) (by decide) (by decide)).setE (v := 1)
  refine ⟨_, rfl, h2.congr (fun k _ _ => ?_)⟩
  unfold q_en
  by_cases k1 : k = 87
  · subst k1; simp (disch := omega) only [Int.add_zero, Int.mul_zero, Int.reduceMul, Int.reduceAdd, Int.mul_one, Int.tdiv_eq_ediv_of_nonneg, Int.tmod_eq_emod_of_nonneg, ↓reduceIte, ↓zLet_eq, ↓zRd_ok, ↓zWr_ok, ↓zC_V, ↓zC_I, ↓zC_J, zUp_at, zUp_ne, q_up_at, q_up_ne, w32_of, w64_of, q_le_T, q_le_F, q_lt_T, q_lt_F, q_eq_T, q_eq_F, true_or, or_true, or_false, false_or, false_and, and_false]
  · by_cases k2 : k = 88
    · subst k2; simp (disch := omega) only [Int.add_zero, Int.mul_zero, Int.reduceMul, Int.reduceAdd, Int.mul_one, Int.tdiv_eq_ediv_of_nonneg, Int.tmod_eq_emod_of_nonneg, ↓reduceIte, ↓zLet_eq, ↓zRd_ok, ↓zWr_ok, ↓zC_V, ↓zC_I, ↓zC_J, zUp_at, zUp_ne, q_up_at, q_up_ne, w32_of, w64_of, q_le_T, q_le_F, q_lt_T, q_lt_F, q_eq_T, q_eq_F, true_or, or_true, or_false, false_or, false_and, and_false]
    · by_cases k3 : k = 89
      · subst k3; simp (disch := omega) only [Int.add_zero, Int.mul_zero, Int.reduceMul, Int.reduceAdd, Int.mul_one, Int.tdiv_eq_ediv_of_nonneg, Int.tmod_eq_emod_of_nonneg, ↓reduceIte, ↓zLet_eq, ↓zRd_ok, ↓zWr_ok, ↓zC_V, ↓zC_I, ↓zC_J, zUp_at, zUp_ne, q_up_at, q_up_ne, w32_of, w64_of, q_le_T, q_le_F, q_lt_T, q_lt_F, q_eq_T, q_eq_F, true_or, or_true, or_false, false_or, false_and, and_false]
      · by_cases k4 : k = 91
        · subst k4; simp (disch := omega) only [Int.add_zero, Int.mul_zero, Int.reduceMul, Int.reduceAdd, Int.mul_one, Int.tdiv_eq_ediv_of_nonneg, Int.tmod_eq_emod_of_nonneg, ↓reduceIte, ↓zLet_eq, ↓zRd_ok, ↓zWr_ok, ↓zC_V, ↓zC_I, ↓zC_J, zUp_at, zUp_ne, q_up_at, q_up_ne, w32_of, w64_of, q_le_T, q_le_F, q_lt_T, q_lt_F, q_eq_T, q_eq_F, true_or, or_true, or_false, false_or, false_and, and_false]
        · simp (disch := omega) only [Int.add_zero, Int.mul_zero, Int.reduceMul, Int.reduceAdd, Int.mul_one, Int.tdiv_eq_ediv_of_nonneg, Int.tmod_eq_emod_of_nonneg, ↓reduceIte, ↓zLet_eq, ↓zRd_ok, ↓zWr_ok, ↓zC_V, ↓zC_I, ↓zC_J, zUp_at, zUp_ne, q_up_at, q_up_ne, w32_of, w64_of, q_le_T, q_le_F, q_lt_T, q_lt_F, q_eq_T, q_eq_F, true_or, or_true, or_false, false_or, false_and, and_false]
theorem b_standing {dl : Nat} {tm s : Int → Int} {ν : ZMem} {a l : Int} (h : b_bk dl tm s ν) (hl : b_ll a l ∨ (a = 7 ∧ l = 1)) : F_Books_standing a ν = some (.inr (some (zJ (s (54 + 4 * l) + s (54 + 4 * l + 1)))), ν) := by
  unfold F_Books_standing
  rcases hl with hl | ⟨rfl, rfl⟩
  · have r0 := h.ru0 hl
    have r1 := h.ru hl (w := 1) (by decide) (by decide)
    have ha : 0 ≤ a ∧ a ≤ 6 := by rcases hl with ⟨rfl, -⟩ | ⟨x, y, -⟩ <;> omega
    simp (disch := omega) only [↓zRd_ok, Int.add_zero, r0, r1]
  · obtain ⟨-, -, b28, b29⟩ := h.bu
    simp (disch := omega) only [↓zRd_ok, Int.add_zero, Int.reduceMul, Int.reduceAdd, b28, b29]
theorem b_netTaken {dl : Nat} {tm s : Int → Int} {ν : ZMem} (h : b_bk dl tm s ν) : F_Books_netTaken ν = some (.inr (some (zJ (s 86 - s 89))), ν) := by
  obtain ⟨p0, p1, p2, p3⟩ := h.pu
  unfold F_Books_netTaken
  simp (disch := omega) only [↓zRd_ok, p0, p3]
/-- all that is open, sold: the books' row; what comes to the investors -/
def q_sob (tm : Int → Int) : Nat → (Int → Int) → (Int → Int)
  | 0, s => s
  | d + 1, s => if q_sob tm d s (30 + 4 * d + 3) = 0 then q_sb tm d (q_sob tm d s (30 + 4 * d + 2)) 1 (q_sob tm d s) else q_sob tm d s
def q_cam (tm : Int → Int) : Nat → (Int → Int) → Int
  | 0, _ => 0
  | d + 1, s => if q_sob tm d s (30 + 4 * d + 3) = 0 then q_cam tm d s + (q_sob tm d s (30 + 4 * d + 2) - q_slM tm d (q_sob tm d s (30 + 4 * d + 2)) (q_sob tm d s)) else q_cam tm d s
theorem q_sob_ok {m dl : Nat} {B : Int} {tm s : Int → Int} (h : q_inv m dl B s) (h6 : m ≤ 6) (hdl : dl ≤ 6) (ht : q_tm tm) (hB0 : 0 ≤ B) (hB1 : B ≤ 764) : ∀ d : Nat, d ≤ dl → q_inv m dl (B + 6 * d) (q_sob tm d s)
  | 0, _ => h.mono h6 (by omega)
  | d + 1, hd => by
    have i1 := q_sob_ok h h6 hdl ht hB0 hB1 d (by omega)
    have hD := i1.2.1 d (by omega)
    rw [q_sob]
    split
    · exact (i1.sb h6 hdl ht (by omega) (by omega) (by omega) (by omega) hD.2.2.1.1 hD.2.2.1.2).mono h6 (by omega)
    · exact i1.mono h6 (by omega)
theorem b_sellAll {m dl : Nat} {B : Int} {tm s : Int → Int} {ν : ZMem} (h : b_bk dl tm s ν) (hi : q_inv m dl B s) (h6 : m ≤ 6) (hdl : dl ≤ 6) (hB0 : 0 ≤ B) (hB1 : B ≤ 764) (ht : q_tm tm) : ∃ ν', F_Books_sellAll ν = some (.inr (some (zJ (q_cam tm dl s))), ν') ∧ b_bk dl tm (q_sob tm dl s) ν' := by
  unfold F_Books_sellAll
  obtain ⟨⟨c, v, ν1⟩, e, j, hv, hj, hc, hb⟩ := q_loop (L := fun n (a : Int × Int × ZMem) => L_Books_sellAll_4 (fun k10 μ9 => some (.inr (some (zJ k10)), μ9)) n a.1 a.2.1 a.2.2) (P := fun k a => ∃ j : Nat, a.2.1 = j ∧ j + k = dl ∧ a.1 = q_cam tm j s ∧ b_bk dl tm (q_sob tm j s) a.2.2) (fun n k a hh => by
      obtain ⟨c, v, ν1⟩ := a
      obtain ⟨j, rfl, hj, rfl, hb⟩ := hh
      simp only [] at hb ⊢
      have i1 := q_sob_ok hi h6 hdl ht hB0 hB1 j (by omega)
      have hD := i1.2.1 j (by omega)
      have e05 := hb.2.2.2.2.2.1
      have eo := b_isOpen (d := j) hb (by omega) (by omega) hD.2.2.2.1 hD.2.2.2.2
      have r2 := hb.de (d := j) (w := 2) (by omega) (by omega) (by decide) (by decide)
      by_cases hz : q_sob tm j s (30 + 4 * j + 3) = 0
      · rw [if_pos hz] at eo
        obtain ⟨ν2, r, hb2, g4, g5⟩ := b_sellDeal (d := j) (sum := q_sob tm j s (30 + 4 * j + 2)) (last := 1) hb i1 h6 hdl (by omega) (by omega) ht (by omega) (by omega) hD.2.2.1.1 hD.2.2.1.2 (Or.inr rfl)
        refine ⟨(q_cam tm j s + (q_sob tm j s (30 + 4 * j + 2) - q_slM tm j (q_sob tm j s (30 + 4 * j + 2)) (q_sob tm j s)), j + 1, ν2), ?_, j + 1, rfl, by omega, ?_, ?_⟩
        · simp (disch := omega) only [L_Books_sellAll_4, J_Books_sellAll_45, Int.add_zero, Int.mul_zero, Int.reduceMul, Int.reduceAdd, Int.mul_one, Int.tdiv_eq_ediv_of_nonneg, Int.tmod_eq_emod_of_nonneg, ↓reduceIte, ↓zLet_eq, ↓zRd_ok, ↓zWr_ok, ↓zC_V, ↓zC_I, ↓zC_J, zUp_at, zUp_ne, q_up_at, q_up_ne, w32_of, w64_of, q_le_T, q_le_F, q_lt_T, q_lt_F, q_eq_T, q_eq_F, true_or, or_true, or_false, false_or, false_and, and_false, eo, r2, r, g5]
        · rw [q_cam, if_pos hz]
        · simp only []
          rw [q_sob, if_pos hz]
          exact hb2
      · rw [if_neg hz] at eo
        refine ⟨(q_cam tm j s, j + 1, ν1), ?_, j + 1, rfl, by omega, ?_, ?_⟩
        · simp (disch := omega) only [L_Books_sellAll_4, J_Books_sellAll_45, Int.add_zero, Int.mul_zero, Int.reduceMul, Int.reduceAdd, Int.mul_one, Int.tdiv_eq_ediv_of_nonneg, Int.tmod_eq_emod_of_nonneg, ↓reduceIte, ↓zLet_eq, ↓zRd_ok, ↓zWr_ok, ↓zC_V, ↓zC_I, ↓zC_J, zUp_at, zUp_ne, q_up_at, q_up_ne, w32_of, w64_of, q_le_T, q_le_F, q_lt_T, q_lt_F, q_eq_T, q_eq_F, true_or, or_true, or_false, false_or, false_and, and_false, eo]
        · rw [q_cam, if_neg hz]
        · simp only []
          rw [q_sob, if_neg hz]
          exact hb) dl zN (0, 0, ν) ⟨0, rfl, by omega, rfl, h⟩ (Nat.le_of_lt (zN_gt (by omega)))
  simp only [] at e hv hc hb
  obtain rfl : j = dl := by omega
  refine ⟨ν1, ?_, hb⟩
  rw [e, hv, hc]
  obtain ⟨n, hn⟩ : ∃ n, zN - j = n + 1 := ⟨zN - j - 1, by have := zN_gt (m := j) (by omega); omega⟩
  rw [hn]
  have e05 := hb.2.2.2.2.2.1
  simp (disch := omega) only [L_Books_sellAll_4, Int.add_zero, Int.mul_zero, Int.reduceMul, Int.reduceAdd, Int.mul_one, Int.tdiv_eq_ediv_of_nonneg, Int.tmod_eq_emod_of_nonneg, ↓reduceIte, ↓zLet_eq, ↓zRd_ok, ↓zWr_ok, ↓zC_V, ↓zC_I, ↓zC_J, zUp_at, zUp_ne, q_up_at, q_up_ne, w32_of, w64_of, q_le_T, q_le_F, q_lt_T, q_lt_F, q_eq_T, q_eq_F, true_or, or_true, or_false, false_or, false_and, and_false]
def q_ob (s : Int → Int) : Nat → Int
  | 0 => 0
  | d + 1 => if s (30 + 4 * d + 3) = 0 then zor (q_ob s d) (zshl 1 d) else q_ob s d
theorem b_openDeals {m dl : Nat} {B : Int} {tm s : Int → Int} {ν : ZMem} (h : b_bk dl tm s ν) (hi : q_inv m dl B s) (hdl : dl ≤ 6) : F_Books_openDeals ν = some (.inr (some (zI (q_ob s dl))), ν) := by
  have e05 := h.2.2.2.2.2.1
  unfold F_Books_openDeals
  obtain ⟨⟨c, v⟩, e, j, hv, hj, hc⟩ := q_loop (L := fun n (a : Int × Int) => L_Books_openDeals_4 (fun k6 μ5 => some (.inr (some (zI k6)), μ5)) n a.1 a.2 ν) (P := fun k a => ∃ j : Nat, a.2 = j ∧ j + k = dl ∧ a.1 = q_ob s j) (fun n k a hh => by
      obtain ⟨c, v⟩ := a
      obtain ⟨j, rfl, hj, rfl⟩ := hh
      have hD := hi.2.1 j (by omega)
      have eo := b_isOpen (d := j) h (by omega) (by omega) hD.2.2.2.1 hD.2.2.2.2
      refine ⟨(q_ob s (j + 1), j + 1), ?_, j + 1, rfl, by omega, rfl⟩
      by_cases hz : s (30 + 4 * j + 3) = 0
      · rw [if_pos hz] at eo
        rw [q_ob, if_pos hz]
        simp (disch := omega) only [L_Books_openDeals_4, J_Books_openDeals_26, Int.add_zero, Int.mul_zero, Int.reduceMul, Int.reduceAdd, Int.mul_one, Int.tdiv_eq_ediv_of_nonneg, Int.tmod_eq_emod_of_nonneg, ↓reduceIte, ↓zLet_eq, ↓zRd_ok, ↓zWr_ok, ↓zC_V, ↓zC_I, ↓zC_J, zUp_at, zUp_ne, q_up_at, q_up_ne, w32_of, w64_of, q_le_T, q_le_F, q_lt_T, q_lt_F, q_eq_T, q_eq_F, true_or, or_true, or_false, false_or, false_and, and_false, eo]
      · rw [if_neg hz] at eo
        rw [q_ob, if_neg hz]
        simp (disch := omega) only [L_Books_openDeals_4, J_Books_openDeals_26, Int.add_zero, Int.mul_zero, Int.reduceMul, Int.reduceAdd, Int.mul_one, Int.tdiv_eq_ediv_of_nonneg, Int.tmod_eq_emod_of_nonneg, ↓reduceIte, ↓zLet_eq, ↓zRd_ok, ↓zWr_ok, ↓zC_V, ↓zC_I, ↓zC_J, zUp_at, zUp_ne, q_up_at, q_up_ne, w32_of, w64_of, q_le_T, q_le_F, q_lt_T, q_lt_F, q_eq_T, q_eq_F, true_or, or_true, or_false, false_or, false_and, and_false, eo]) dl zN (0, 0) ⟨0, rfl, by omega, rfl⟩ (Nat.le_of_lt (zN_gt (by omega)))
  simp only [] at e hv hc
  obtain rfl : j = dl := by omega
  rw [e, hv, hc]
  obtain ⟨n, hn⟩ : ∃ n, zN - j = n + 1 := ⟨zN - j - 1, by have := zN_gt (m := j) (by omega); omega⟩
  rw [hn]
  simp (disch := omega) only [L_Books_openDeals_4, Int.add_zero, Int.mul_zero, Int.reduceMul, Int.reduceAdd, Int.mul_one, Int.tdiv_eq_ediv_of_nonneg, Int.tmod_eq_emod_of_nonneg, ↓reduceIte, ↓zLet_eq, ↓zRd_ok, ↓zWr_ok, ↓zC_V, ↓zC_I, ↓zC_J, zUp_at, zUp_ne, q_up_at, q_up_ne, w32_of, w64_of, q_le_T, q_le_F, q_lt_T, q_lt_F, q_eq_T, q_eq_F, true_or, or_true, or_false, false_or, false_and, and_false]
/-- the first deal that won most (g 1), least (g -1) -/
def q_xd (s : Int → Int) (g : Int) : Nat → Int
  | 0 => -1
  | d + 1 => if q_xd s g d = -1 ∨ g * (s (30 + 4 * q_xd s g d + 1) - s (30 + 4 * q_xd s g d)) < g * (s (30 + 4 * d + 1) - s (30 + 4 * d)) then (d : Int) else q_xd s g d
theorem q_xd_in (s : Int → Int) (g : Int) : ∀ n : Nat, -1 ≤ q_xd s g n ∧ q_xd s g n < n ∧ (0 < n → 0 ≤ q_xd s g n)
  | 0 => by rw [q_xd]; omega
  | n + 1 => by
    have h := q_xd_in s g n
    rw [q_xd]
    split
    · omega
    · rename_i hh
      have : q_xd s g n ≠ -1 := fun e => hh (Or.inl e)
      omega
theorem b_extremeDeal {m dl : Nat} {B g : Int} {tm s : Int → Int} {ν : ZMem} (h : b_bk dl tm s ν) (hi : q_inv m dl B s) (hdl : dl ≤ 6) (hB0 : 0 ≤ B) (hB1 : B ≤ 900) (hg : g = 1 ∨ g = -1) : F_Books_extremeDeal g ν = some (.inr (some (zI (q_xd s g dl))), ν) := by
  have e05 := h.2.2.2.2.2.1
  unfold F_Books_extremeDeal
  have gb : ∀ d : Int, 0 ≤ d → d < 6 → -100000000 ≤ g * (s (30 + 4 * d + 1) - s (30 + 4 * d)) ∧ g * (s (30 + 4 * d + 1) - s (30 + 4 * d)) ≤ 100000000 := fun d d0 d1 => by
    have hD := hi.2.1 d.toNat (by omega)
    rw [Int.toNat_of_nonneg d0] at hD
    rcases hg with rfl | rfl
    · rw [Int.one_mul]; omega
    · rw [Int.neg_mul, Int.one_mul]; omega
  obtain ⟨⟨c, w, v⟩, e, j, hv, hj, hc, hw⟩ := q_loop (L := fun n (a : Int × Int × Int) => L_Books_extremeDeal_7 g ν (fun k5 => some (.inr (some (zI k5)), ν)) n a.1 a.2.1 a.2.2) (P := fun k a => ∃ j : Nat, a.2.2 = j ∧ j + k = dl ∧ a.1 = q_xd s g j ∧ (q_xd s g j ≠ -1 → a.2.1 = g * (s (30 + 4 * q_xd s g j + 1) - s (30 + 4 * q_xd s g j)))) (fun n k a hh => by
      obtain ⟨c, w, v⟩ := a
      obtain ⟨j, rfl, hj, rfl, hw⟩ := hh
      simp only [] at hw
      have r0 := h.de0 (d := j) (by omega) (by omega)
      have r1 := h.de (d := j) (w := 1) (by omega) (by omega) (by decide) (by decide)
      have hin := q_xd_in s g j
      have gj := gb j (by omega) (by omega)
      by_cases hn : q_xd s g j = -1
      · refine ⟨(j, g * (s (30 + 4 * j + 1) - s (30 + 4 * j)), j + 1), ?_, j + 1, rfl, by omega, ?_, fun _ => ?_⟩
        · simp (disch := omega) only [L_Books_extremeDeal_7, J_Books_extremeDeal_54, J_Books_extremeDeal_60, Int.add_zero, Int.mul_zero, Int.reduceMul, Int.reduceAdd, Int.mul_one, Int.tdiv_eq_ediv_of_nonneg, Int.tmod_eq_emod_of_nonneg, ↓reduceIte, ↓zLet_eq, ↓zRd_ok, ↓zWr_ok, ↓zC_V, ↓zC_I, ↓zC_J, zUp_at, zUp_ne, q_up_at, q_up_ne, w32_of, w64_of, q_le_T, q_le_F, q_lt_T, q_lt_F, q_eq_T, q_eq_F, true_or, or_true, or_false, false_or, false_and, and_false, r0, r1]
        · rw [q_xd, if_pos (Or.inl hn)]
        · rw [q_xd, if_pos (Or.inl hn)]
      · have hw' := hw hn
        have gq := gb (q_xd s g j) (by omega) (by omega)
        by_cases hlt : g * (s (30 + 4 * q_xd s g j + 1) - s (30 + 4 * q_xd s g j)) < g * (s (30 + 4 * j + 1) - s (30 + 4 * j))
        · refine ⟨(j, g * (s (30 + 4 * j + 1) - s (30 + 4 * j)), j + 1), ?_, j + 1, rfl, by omega, ?_, fun _ => ?_⟩
          · simp (disch := omega) only [L_Books_extremeDeal_7, J_Books_extremeDeal_54, J_Books_extremeDeal_60, Int.add_zero, Int.mul_zero, Int.reduceMul, Int.reduceAdd, Int.mul_one, Int.tdiv_eq_ediv_of_nonneg, Int.tmod_eq_emod_of_nonneg, ↓reduceIte, ↓zLet_eq, ↓zRd_ok, ↓zWr_ok, ↓zC_V, ↓zC_I, ↓zC_J, zUp_at, zUp_ne, q_up_at, q_up_ne, w32_of, w64_of, q_le_T, q_le_F, q_lt_T, q_lt_F, q_eq_T, q_eq_F, true_or, or_true, or_false, false_or, false_and, and_false, r0, r1]
          · rw [q_xd, if_pos (Or.inr hlt)]
          · rw [q_xd, if_pos (Or.inr hlt)]
        · have hnn : ¬ (q_xd s g j = -1 ∨ g * (s (30 + 4 * q_xd s g j + 1) - s (30 + 4 * q_xd s g j)) < g * (s (30 + 4 * j + 1) - s (30 + 4 * j))) := fun hh => hh.elim hn hlt
          refine ⟨(q_xd s g j, w, j + 1), ?_, j + 1, rfl, by omega, ?_, fun _ => ?_⟩
          · simp (disch := omega) only [L_Books_extremeDeal_7, J_Books_extremeDeal_54, J_Books_extremeDeal_60, Int.add_zero, Int.mul_zero, Int.reduceMul, Int.reduceAdd, Int.mul_one, Int.tdiv_eq_ediv_of_nonneg, Int.tmod_eq_emod_of_nonneg, ↓reduceIte, ↓zLet_eq, ↓zRd_ok, ↓zWr_ok, ↓zC_V, ↓zC_I, ↓zC_J, zUp_at, zUp_ne, q_up_at, q_up_ne, w32_of, w64_of, q_le_T, q_le_F, q_lt_T, q_lt_F, q_eq_T, q_eq_F, true_or, or_true, or_false, false_or, false_and, and_false, r0, r1]
          · rw [q_xd, if_neg hnn]
          · rw [q_xd, if_neg hnn]
            exact hw') dl zN (-1, 0, 0) ⟨0, rfl, by omega, rfl, fun hh => absurd rfl hh⟩ (Nat.le_of_lt (zN_gt (by omega)))
  simp only [] at e hv hc hw
  obtain rfl : j = dl := by omega
  rw [e, hv, hc]
  obtain ⟨n, hn⟩ : ∃ n, zN - j = n + 1 := ⟨zN - j - 1, by have := zN_gt (m := j) (by omega); omega⟩
  rw [hn]
  simp (disch := omega) only [L_Books_extremeDeal_7, Int.add_zero, Int.mul_zero, Int.reduceMul, Int.reduceAdd, Int.mul_one, Int.tdiv_eq_ediv_of_nonneg, Int.tmod_eq_emod_of_nonneg, ↓reduceIte, ↓zLet_eq, ↓zRd_ok, ↓zWr_ok, ↓zC_V, ↓zC_I, ↓zC_J, zUp_at, zUp_ne, q_up_at, q_up_ne, w32_of, w64_of, q_le_T, q_le_F, q_lt_T, q_lt_F, q_eq_T, q_eq_F, true_or, or_true, or_false, false_or, false_and, and_false]
