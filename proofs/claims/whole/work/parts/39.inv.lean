/-! ===== bounds of the row; B counts what was done ===== -/
def q_iI (m : Nat) (B : Int) (s : Int → Int) : Prop := ∀ i : Nat, i < m → (1 ≤ s (5 * i) ∧ s (5 * i) ≤ 9999) ∧ (0 ≤ s (5 * i + 1) ∧ s (5 * i + 1) ≤ s (5 * i)) ∧ (0 ≤ s (5 * i + 2) ∧ s (5 * i + 2) ≤ 100000 * B) ∧ (0 ≤ s (5 * i + 3) ∧ s (5 * i + 3) ≤ 1000000000 * B) ∧ (0 ≤ s (5 * i + 4) ∧ s (5 * i + 4) ≤ 1)
def q_iD (B : Int) (s : Int → Int) : Prop := ∀ d : Nat, d < 6 → (0 ≤ s (30 + 4 * d) ∧ s (30 + 4 * d) ≤ 100000 * B) ∧ (0 ≤ s (30 + 4 * d + 1) ∧ s (30 + 4 * d + 1) ≤ 100000 * B) ∧ (0 ≤ s (30 + 4 * d + 2) ∧ s (30 + 4 * d + 2) ≤ 9999) ∧ (0 ≤ s (30 + 4 * d + 3) ∧ s (30 + 4 * d + 3) ≤ 1)
def q_iL (dl : Nat) (B : Int) (s : Int → Int) : Prop := (∀ l : Nat, l < 8 → (0 ≤ s (54 + 4 * l) ∧ s (54 + 4 * l) ≤ 100000000 * B ∧ (l ≠ 1 → s (54 + 4 * l) ≤ 100000 * B)) ∧ (0 ≤ s (54 + 4 * l + 1) ∧ s (54 + 4 * l + 1) ≤ 1000000000 * B + 1000000000 ∧ (l ≠ 1 → s (54 + 4 * l + 1) ≤ 1000000000)) ∧ (0 ≤ s (54 + 4 * l + 2) ∧ s (54 + 4 * l + 2) ≤ 100000 * B) ∧ (0 ≤ s (54 + 4 * l + 3) ∧ s (54 + 4 * l + 3) ≤ 100000 * B)) ∧
  (∀ l : Nat, dl + 2 ≤ l → l < 8 → s (54 + 4 * l) = 0 ∧ s (54 + 4 * l + 1) = 0 ∧ s (54 + 4 * l + 2) = 0 ∧ s (54 + 4 * l + 3) = 0)
def q_iP (B : Int) (s : Int → Int) : Prop := (0 ≤ s 86 ∧ s 86 ≤ 100000 * B) ∧ (0 ≤ s 87 ∧ s 87 ≤ 1000000000 * B) ∧ (0 ≤ s 88 ∧ s 88 ≤ 100000 * B) ∧ (0 ≤ s 89 ∧ s 89 ≤ 1000000000 * B) ∧ (0 ≤ s 90 ∧ s 90 ≤ 200) ∧ (0 ≤ s 91 ∧ s 91 ≤ 1)
def q_iO (s : Int → Int) : Prop := ∀ k, k < 0 ∨ 92 ≤ k → s k = 0
def q_inv (m dl : Nat) (B : Int) (s : Int → Int) : Prop := q_iI m B s ∧ q_iD B s ∧ q_iL dl B s ∧ q_iP B s ∧ q_iO s
theorem q_iI.congr {m : Nat} {B B' : Int} {s s' : Int → Int} (h : q_iI m B s) (h6 : m ≤ 6) (hB : B ≤ B') (e : ∀ k, 0 ≤ k → k < 30 → s' k = s k) : q_iI m B' s' := fun i hi => by
  have := h i hi
  rw [e _ (by omega) (by omega), e _ (by omega) (by omega), e _ (by omega) (by omega), e _ (by omega) (by omega), e _ (by omega) (by omega)]
  omega
theorem q_iD.congr {B B' : Int} {s s' : Int → Int} (h : q_iD B s) (hB : B ≤ B') (e : ∀ k, 30 ≤ k → k < 54 → s' k = s k) : q_iD B' s' := fun d hd => by
  have := h d hd
  rw [e _ (by omega) (by omega), e _ (by omega) (by omega), e _ (by omega) (by omega), e _ (by omega) (by omega)]
  omega
theorem q_iL.congr {dl : Nat} {B B' : Int} {s s' : Int → Int} (h : q_iL dl B s) (hB : B ≤ B') (e : ∀ k, 54 ≤ k → k < 86 → s' k = s k) : q_iL dl B' s' := by
  refine ⟨fun l hl => ?_, fun l h0 hl => ?_⟩
  · have := h.1 l hl
    rw [e _ (by omega) (by omega), e _ (by omega) (by omega), e _ (by omega) (by omega), e _ (by omega) (by omega)]
    omega
  · have := h.2 l h0 hl
    rw [e _ (by omega) (by omega), e _ (by omega) (by omega), e _ (by omega) (by omega), e _ (by omega) (by omega)]
    exact this
theorem q_iP.congr {B B' : Int} {s s' : Int → Int} (h : q_iP B s) (hB : B ≤ B') (e : ∀ k, 86 ≤ k → k < 92 → s' k = s k) : q_iP B' s' := by
  unfold q_iP at h ⊢
  rw [e _ (by omega) (by omega), e _ (by omega) (by omega), e _ (by omega) (by omega), e _ (by omega) (by omega), e _ (by omega) (by omega), e _ (by omega) (by omega)]
  omega
theorem q_inv.mono {m dl : Nat} {B B' : Int} {s : Int → Int} (h : q_inv m dl B s) (h6 : m ≤ 6) (hB : B ≤ B') : q_inv m dl B' s :=
  ⟨h.1.congr h6 hB (fun _ _ _ => rfl), h.2.1.congr hB (fun _ _ _ => rfl), h.2.2.1.congr hB (fun _ _ _ => rfl), h.2.2.2.1.congr hB (fun _ _ _ => rfl), h.2.2.2.2⟩
theorem q_shr_bd {m : Nat} {w : Int → Int} {sum : Int} (hs : 0 ≤ sum) (hw : ∀ i : Nat, i < m → 0 ≤ w i) (i : Nat) (hi : i < m) : 0 ≤ q_shr m w sum i ∧ q_shr m w sum i ≤ sum := by
  have hA := q_sm_nonneg hw
  refine ⟨q_shr_nn hA hs hw i hi, ?_⟩
  rcases Int.lt_or_le 0 (q_sm w m) with h | h
  · exact q_shr_le h hs hw i hi
  · rw [q_shr_none h hA]
    exact hs
theorem q_shr_bdw {m : Nat} {w : Int → Int} {sum : Int} (hs : 0 ≤ sum) (hw : ∀ i : Nat, i < m → 0 ≤ w i) (hle : sum ≤ q_sm w m) (i : Nat) (hi : i < m) : 0 ≤ q_shr m w sum i ∧ q_shr m w sum i ≤ w i := by
  have hA := q_sm_nonneg hw
  refine ⟨q_shr_nn hA hs hw i hi, ?_⟩
  rcases Int.lt_or_le 0 (q_sm w m) with h | h
  · exact q_shr_lew h hs hle hw i hi
  · rw [q_shr_none h hA]
    exact hw i hi
theorem q_iI.py {m : Nat} {B : Int} {s pt : Int → Int} (h : q_iI m B s) (hp : ∀ i : Nat, i < m → 0 ≤ pt i ∧ pt i ≤ s (5 * i + 1)) : q_iI m (B + 1) (q_py m pt s) := fun i hi => by
  have h1 := h i hi
  have h2 := hp i hi
  rw [q_py_0, q_py_1 (by omega) (by omega), q_py_2 (by omega) (by omega), q_py_3, q_py_4]
  omega
theorem q_iI.gt {m : Nat} {B : Int} {s pt : Int → Int} (h : q_iI m B s) (hp : ∀ i : Nat, i < m → 0 ≤ pt i ∧ pt i ≤ 1000000000) : q_iI m (B + 1) (q_gt m pt s) := fun i hi => by
  have h1 := h i hi
  have h2 := hp i hi
  rw [q_gt_ne (by omega), q_gt_ne (by omega), q_gt_ne (by omega), q_gt_3 (by omega) (by omega), q_gt_ne (by omega)]
  omega
theorem q_iL.fl {dl : Nat} {B : Int} {tm s : Int → Int} {l b sum : Int} (h : q_iL dl B s) (ht : q_tm tm) (hB0 : 0 ≤ B) (hl : (l = 0 ∧ b = 0) ∨ (2 ≤ l ∧ l < dl + 2 ∧ b = 1)) (hdl : dl ≤ 6) (hs0 : 0 ≤ sum) (hs1 : sum ≤ 9999) : q_iL dl (B + 1) (q_fl tm l b sum s) := by
  obtain ⟨-, ⟨a1, a2⟩, ⟨b1, b2⟩, -⟩ := ht
  have hL := h.1 l.toNat (by omega)
  rw [Int.toNat_of_nonneg (by omega)] at hL
  have h1 := h.1 1 (by decide)
  have e58 : (54 + 4 * ((1 : Nat) : Int)) = 58 := rfl
  rw [e58] at h1
  simp only [Int.reduceAdd] at h1
  have hc : 0 ≤ q_cc l b s := by unfold q_cc; split <;> omega
  have hp : 0 ≤ q_cp l b s := by unfold q_cp; split <;> omega
  have hst := q_st_in (tm := tm) (c := q_cc l b s) (p := q_cp l b s) (g := s (54 + 4 * l + 2)) (t := s (54 + 4 * l + 3)) hc hp hs0
  have hM := q_sM_in (tm := tm) (c := q_cc l b s) (p := q_cp l b s) (g := s (54 + 4 * l + 2)) (t := s (54 + 4 * l + 3)) (sum := sum) a1 a2 b1 (by omega) hc hp hs0
  have m0 := q_min_le sum (s (54 + 4 * l))
  have m0n := q_min_nn hs0 hL.1.1
  have m1 := q_min_le (sum - q_s0 (q_cc l b s) sum) (s (54 + 4 * l + 1))
  have m1n := q_min_nn (a := sum - q_s0 (q_cc l b s) sum) (b := s (54 + 4 * l + 1)) (by omega) hL.2.1.1
  have eM : q_fM tm l b sum s = q_sM tm (q_cc l b s) (q_cp l b s) (s (54 + 4 * l + 2)) (s (54 + 4 * l + 3)) sum := rfl
  have k0 : q_min sum (s (54 + 4 * l)) ≤ q_s0 (q_cc l b s) sum ∧ q_s0 (q_cc l b s) sum ≤ q_min sum (s (54 + 4 * l)) + (if b = 0 then 0 else s 58) := by
    unfold q_s0 q_cc q_min
    rcases hl with ⟨-, rfl⟩ | ⟨-, -, rfl⟩
    · simp only [if_pos, Int.add_zero]; split <;> omega
    · simp only [if_neg (show ¬ ((1 : Int) = 0) by decide)]; split <;> split <;> omega
  have k1 : q_min (sum - q_s0 (q_cc l b s) sum) (s (54 + 4 * l + 1)) ≤ q_s1 (q_cc l b s) (q_cp l b s) sum ∧ q_s1 (q_cc l b s) (q_cp l b s) sum ≤ q_min (sum - q_s0 (q_cc l b s) sum) (s (54 + 4 * l + 1)) + (if b = 0 then 0 else s 59) := by
    unfold q_s1 q_cp
    generalize sum - q_s0 (q_cc l b s) sum = x at *
    unfold q_min
    rcases hl with ⟨-, rfl⟩ | ⟨-, -, rfl⟩
    · simp only [if_pos, Int.add_zero]; split <;> omega
    · simp only [if_neg (show ¬ ((1 : Int) = 0) by decide)]; split <;> split <;> omega
  rw [← eM] at hM
  have z58 : (if b = 0 then 0 else s 58) ≤ s 58 := by split <;> omega
  have z59 : (if b = 0 then 0 else s 59) ≤ s 59 := by split <;> omega
  generalize hQ : q_fM tm l b sum s = M at *
  refine ⟨fun l' hl' => ?_, fun l' h0 hl' => ?_⟩
  · have h2 := h.1 l' hl'
    by_cases e : (l' : Int) = l
    · subst e
      simp (disch := omega) only [q_fl, Int.add_zero, Int.mul_zero, Int.reduceMul, Int.reduceAdd, Int.mul_one, Int.tdiv_eq_ediv_of_nonneg, Int.tmod_eq_emod_of_nonneg, ↓reduceIte, ↓zLet_eq, ↓zRd_ok, ↓zWr_ok, ↓zC_V, ↓zC_I, ↓zC_J, zUp_at, zUp_ne, q_up_at, q_up_ne, w32_of, w64_of, q_le_T, q_le_F, q_lt_T, q_lt_F, q_eq_T, q_eq_F, true_or, or_true, or_false, false_or, and_self, implies_true, true_and, and_true, ne_eq, not_true_eq_false, not_false_eq_true, false_implies, true_implies, hQ] <;> omega
    · by_cases e1 : l' = 1
      · subst e1
        rw [e58] at h2 ⊢
        simp only [Int.reduceAdd] at h2 ⊢
        simp (disch := omega) only [q_fl, Int.add_zero, Int.mul_zero, Int.reduceMul, Int.reduceAdd, Int.mul_one, Int.tdiv_eq_ediv_of_nonneg, Int.tmod_eq_emod_of_nonneg, ↓reduceIte, ↓zLet_eq, ↓zRd_ok, ↓zWr_ok, ↓zC_V, ↓zC_I, ↓zC_J, zUp_at, zUp_ne, q_up_at, q_up_ne, w32_of, w64_of, q_le_T, q_le_F, q_lt_T, q_lt_F, q_eq_T, q_eq_F, true_or, or_true, or_false, false_or, and_self, implies_true, true_and, and_true, ne_eq, not_true_eq_false, not_false_eq_true, false_implies, true_implies, hQ] <;> omega
      · simp (disch := omega) only [q_fl, Int.add_zero, Int.mul_zero, Int.reduceMul, Int.reduceAdd, Int.mul_one, Int.tdiv_eq_ediv_of_nonneg, Int.tmod_eq_emod_of_nonneg, ↓reduceIte, ↓zLet_eq, ↓zRd_ok, ↓zWr_ok, ↓zC_V, ↓zC_I, ↓zC_J, zUp_at, zUp_ne, q_up_at, q_up_ne, w32_of, w64_of, q_le_T, q_le_F, q_lt_T, q_lt_F, q_eq_T, q_eq_F, true_or, or_true, or_false, false_or, and_self, implies_true, true_and, and_true, ne_eq, not_true_eq_false, not_false_eq_true, false_implies, true_implies, hQ] <;> omega
  · have h2 := h.2 l' h0 hl'
    simp (disch := omega) only [q_fl, Int.add_zero, Int.mul_zero, Int.reduceMul, Int.reduceAdd, Int.mul_one, Int.tdiv_eq_ediv_of_nonneg, Int.tmod_eq_emod_of_nonneg, ↓reduceIte, ↓zLet_eq, ↓zRd_ok, ↓zWr_ok, ↓zC_V, ↓zC_I, ↓zC_J, zUp_at, zUp_ne, q_up_at, q_up_ne, w32_of, w64_of, q_le_T, q_le_F, q_lt_T, q_lt_F, q_eq_T, q_eq_F, true_or, or_true, or_false, false_or, and_self, implies_true, true_and, and_true, ne_eq, not_true_eq_false, not_false_eq_true, false_implies, true_implies, hQ]
