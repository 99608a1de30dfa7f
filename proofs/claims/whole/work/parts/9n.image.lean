/-! ===== the image ===== -/
def q_fo (μ : ZMem) (c : Nat) (g : Int → Int) (o m : Int) : ZMem := fun c' i => if c' = c ∧ o ≤ i ∧ i < o + m then g (i - o) else μ c' i
theorem q_fo_zero (μ : ZMem) (c : Nat) (g : Int → Int) (o : Int) : q_fo μ c g o 0 = μ := by
  funext c' i
  exact if_neg (by omega)
theorem q_fo_succ (μ : ZMem) (c : Nat) (g : Int → Int) (o : Int) (j : Nat) : zUp (q_fo μ c g o j) c (o + j) (g j) = q_fo μ c g o (j + 1) := by
  funext c' i
  unfold zUp q_fo
  by_cases h : c' = c ∧ i = o + j
  · rw [if_pos h, if_pos (by omega), h.2, show o + (j : Int) - o = j by omega]
  · rw [if_neg h]
    by_cases h2 : c' = c ∧ o ≤ i ∧ i < o + j
    · rw [if_pos h2, if_pos (by omega)]
    · rw [if_neg h2, if_neg (by omega)]
theorem q_fo_in {μ : ZMem} {c : Nat} {g : Int → Int} {o m i : Int} (h0 : 0 ≤ i) (h1 : i < m) : q_fo μ c g o m c (o + i) = g i := by
  unfold q_fo
  rw [if_pos (by omega), show o + i - o = i by omega]
theorem q_fo_out {μ : ZMem} {c : Nat} {g : Int → Int} {o m i : Int} (h : i < o ∨ o + m ≤ i) : q_fo μ c g o m c i = μ c i := if_neg (by omega)
theorem q_fo_ne {μ : ZMem} {c c' : Nat} {g : Int → Int} {o m : Int} (h : c' ≠ c) : q_fo μ c g o m c' = μ c' := by
  funext i
  exact if_neg (fun q => h q.1)
theorem q_mapo {R : Type} {L : Nat → Int → ZMem → R} {c : Nat} {g : Int → Int} {o : Int} {m : Nat} {K : ZMem → R} {μ : ZMem} (hs : ∀ (n j : Nat), j < m → L (n + 1) j (q_fo μ c g o j) = L n (j + 1) (zUp (q_fo μ c g o j) c (o + j) (g j))) (hd : ∀ n : Nat, L (n + 1) m (q_fo μ c g o m) = K (q_fo μ c g o m)) {n : Nat} (hn : m < n) : L n 0 μ = K (q_fo μ c g o m) := by
  have key : ∀ (k n j : Nat), j + k = m → k < n → L n j (q_fo μ c g o j) = K (q_fo μ c g o m) := by
    intro k
    induction k with
    | zero =>
      intro n j hj hn
      obtain ⟨n, rfl⟩ : ∃ i, n = i + 1 := ⟨n - 1, by omega⟩
      obtain rfl : j = m := by omega
      exact hd n
    | succ k ih =>
      intro n j hj hn
      obtain ⟨n, rfl⟩ : ∃ i, n = i + 1 := ⟨n - 1, by omega⟩
      rw [hs n j (by omega), q_fo_succ]
      exact ih n (j + 1) (by omega) (by omega)
  have := key m n 0 (by omega) hn
  rw [show ((0 : Nat) : Int) = 0 from rfl, q_fo_zero] at this
  exact this
section GE
variable {m dl a : Nat} {κ μ ν κ' : ZMem} {tm ex pr J : Int → Int}
theorem zMg_4 {pl : List Nat} {c : Nat} (h : ∀ j, 4 ≤ j → ν j = zVw pl κ j) (hc : c ∉ [zRho pl 0, zRho pl 1, zRho pl 2, zRho pl 3]) : zMg pl κ ν c = κ c :=
  zMg_fr (bad := [0, 1, 2, 3]) (fun j hj => h j (by simp only [List.mem_cons, List.not_mem_nil, or_false, not_or] at hj; omega)) hc
theorem zMg_2 {pl : List Nat} {c : Nat} (h : ∀ j, 2 ≤ j → ν j = zVw pl κ j) (hc : c ∉ [zRho pl 0, zRho pl 1]) : zMg pl κ ν c = κ c :=
  zMg_fr (bad := [0, 1]) (fun j hj => h j (by simp only [List.mem_cons, List.not_mem_nil, or_false, not_or] at hj; omega)) hc
theorem f_copyFund (h : ν 4 5 = 0 ∨ ν 4 5 = 1) : ∃ ν', F_Fund_copyFrom ν = some (.inr none, ν') ∧ (ν' 0 3 = ν 4 3 ∧ ν' 0 4 = ν 4 4 ∧ ν' 0 5 = ν 4 5) ∧ (∀ k, 0 ≤ k → k < 7 → ν' 1 k = ν 5 k) ∧ (∀ k, 0 ≤ k → k < 6 → ν' 2 k = ν 6 k) ∧ (∀ k, 0 ≤ k → k < 6 → ν' 3 k = ν 7 k) ∧ (∀ c, 4 ≤ c → ν' c = ν c) := by
  generalize h3 : zCopy (zCopy (zCopy ν 5 1 7) 6 2 6) 7 3 6 = ν3
  have e4 : ν3 4 = ν 4 := by rw [← h3, zCopy_ne (by decide), zCopy_ne (by decide), zCopy_ne (by decide)]
  refine ⟨zUp (zUp (zUp ν3 0 3 (ν 4 3)) 0 4 (ν 4 4)) 0 5 (ν 4 5), ?_, ⟨?_, ?_, ?_⟩, fun k k0 k1 => ?_, fun k k0 k1 => ?_, fun k k0 k1 => ?_, fun c hc => ?_⟩
  · unfold F_Fund_copyFrom
    rw [zLet_eq, zLet_eq, zLet_eq, h3, zLet_eq, zLet_eq]
    simp only [zUp_ne (show (4 : Nat) ≠ 0 by decide), e4]
    rw [if_pos h, zLet_eq]
  · rw [zUp_at, q_up_ne (by decide), zUp_at, q_up_ne (by decide), zUp_at, q_up_at]
  · rw [zUp_at, q_up_ne (by decide), zUp_at, q_up_at]
  · rw [zUp_at, q_up_at]
  · rw [zUp_ne (by decide), zUp_ne (by decide), zUp_ne (by decide), ← h3, zCopy_ne (by decide), zCopy_ne (by decide), zCopy_at k0 (by omega)]
  · rw [zUp_ne (by decide), zUp_ne (by decide), zUp_ne (by decide), ← h3, zCopy_ne (by decide), zCopy_at k0 (by omega), zCopy_ne (by decide)]
  · rw [zUp_ne (by decide), zUp_ne (by decide), zUp_ne (by decide), ← h3, zCopy_at k0 (by omega), zCopy_ne (by decide), zCopy_ne (by decide)]
  · rw [zUp_ne (by omega), zUp_ne (by omega), zUp_ne (by omega), ← h3, zCopy_ne (by omega), zCopy_ne (by omega), zCopy_ne (by omega)]
theorem f_copyJournal (ν : ZMem) : ∃ ν', F_Journal_copyFrom ν = some (.inr none, ν') ∧ ν' 0 1 = ν 2 1 ∧ (∀ k, 0 ≤ k → k < 420 → ν' 1 k = ν 3 k) ∧ (∀ c, 2 ≤ c → ν' c = ν c) := by
  refine ⟨zUp (zCopy ν 3 1 420) 0 1 (ν 2 1), ?_, ?_, fun k k0 k1 => ?_, fun c hc => ?_⟩
  · unfold F_Journal_copyFrom
    rw [zLet_eq, zLet_eq, zCopy_ne (by decide)]
  · rw [zUp_at, q_up_at]
  · rw [zUp_ne (by decide), zCopy_at k0 (by omega)]
  · rw [zUp_ne (by omega), zCopy_ne (by omega)]
theorem c_fd.of {f t p e f' t' p' e' : Int → Int} (h : c_fd m dl tm ex pr f t p e) (h6 : m ≤ 6) (e1 : f' 3 = f 3 ∧ f' 4 = f 4 ∧ f' 5 = f 5) (e2 : ∀ k, 0 ≤ k → k < 7 → t' k = t k) (e3 : ∀ k, 0 ≤ k → k < 6 → p' k = p k) (e4 : ∀ k, 0 ≤ k → k < 6 → e' k = e k) : c_fd m dl tm ex pr f' t' p' e' := by
  obtain ⟨h1, h2, h3, h4, h5, h6'⟩ := h
  exact ⟨e1.1.trans h1, e1.2.1.trans h2, by rw [e1.2.2]; exact h3, fun k k0 k1 => (e2 k k0 k1).trans (h4 k k0 k1), fun i i0 i1 => (e3 i i0 (by omega)).trans (h5 i i0 i1), fun d d0 d1 => (e4 d d0 d1).trans (h6' d d0 d1)⟩
theorem c_jn.of {j r j' r' : Int → Int} (h : c_jn m a tm ex pr J j r) (ha : a ≤ 60) (e1 : j' 1 = j 1) (e2 : ∀ k, 0 ≤ k → k < 420 → r' k = r k) : c_jn m a tm ex pr J j' r' := by
  obtain ⟨h1, h2, h3⟩ := h
  refine ⟨e1.trans h1, fun k hk => ?_, fun k hk => ?_⟩
  · rw [e2 _ (by omega) (by omega), e2 _ (by omega) (by omega), e2 _ (by omega) (by omega), e2 _ (by omega) (by omega), e2 _ (by omega) (by omega)]
    exact h2 k hk
  · rw [e2 _ (by omega) (by omega), e2 _ (by omega) (by omega)]
    exact h3 k hk
theorem c_at.cg (h : c_at m dl a tm ex pr J κ) (f : ∀ c, 3 ≤ c → c < 33 → κ' c = κ c) : c_at m dl a tm ex pr J κ' := by
  obtain ⟨h1, h2, h3, h4⟩ := h
  refine ⟨?_, ?_, h3.vw (fun c hc => f c (by omega) (by omega)), by rw [f 32 (by decide) (by decide)]; exact h4⟩
  · rw [f 3 (by decide) (by decide), f 4 (by decide) (by decide), f 5 (by decide) (by decide), f 6 (by decide) (by decide)]
    exact h1
  · rw [f 11 (by decide) (by decide), f 12 (by decide) (by decide)]
    exact h2
abbrev plI1 : List Nat := [109, 110, 111, 112, 3, 4, 5, 6]
abbrev plI2 : List Nat := [113, 114, 11, 12]
abbrev plB1 : List Nat := [3, 4, 5, 6, 109, 110, 111, 112]
abbrev plB2 : List Nat := [11, 12, 113, 114]
theorem m_image (μ : ZMem) : ∃ μ', F_Model_image μ = some (.inr none, μ') ∧ (∀ c, c ≠ 0 → c ≠ 14 → μ' c = μ c) ∧ (∀ k, k ≠ 0 → k ≠ 19 → μ' 0 k = μ 0 k) ∧ μ' 0 0 = 0 ∧ μ' 0 19 = 1 ∧ (∀ i, 0 ≤ i → i < 7 → μ' 14 i = μ 2 i) ∧ (∀ i, 0 ≤ i → i < 6 → μ' 14 (7 + i) = μ 3 i) ∧ μ' 14 13 = μ 0 5 ∧ μ' 14 14 = μ 0 6 ∧ μ' 14 15 = μ 0 11 ∧ (∀ i, 0 ≤ i → i < 6 → μ' 14 (16 + i) = μ 4 i) ∧ (∀ i, 0 ≤ i → i < 300 → μ' 14 (22 + i) = μ 8 i) := by
  have l1 : ∀ (μ : ZMem) (K : ZMem → Option ZRes), L_Model_image_7 K zN 0 μ = K (q_fi μ 14 (μ 2) (7 : Nat)) := fun μ K => by
    refine q_map (L := fun n j ν => L_Model_image_7 K n j ν) (fun n j hj => ?_) (fun n => ?_) (zN_gt (by omega))
    · have e : q_fi μ 14 (μ 2) j 2 = μ 2 := q_fi_ne (by decide)
      simp (disch := omega) only [L_Model_image_7, Int.add_zero, Int.mul_zero, Int.reduceMul, Int.reduceAdd, Int.mul_one, Int.tdiv_eq_ediv_of_nonneg, Int.tmod_eq_emod_of_nonneg, ↓reduceIte, ↓zLet_eq, ↓zRd_ok, ↓zWr_ok, ↓zC_V, ↓zC_I, ↓zC_J, zUp_at, zUp_ne, q_up_at, q_up_ne, w32_of, w64_of, q_le_T, q_le_F, q_lt_T, q_lt_F, q_eq_T, q_eq_F, true_or, or_true, or_false, false_or, false_and, and_false, e]
    · simp (disch := omega) only [L_Model_image_7, Int.add_zero, Int.mul_zero, Int.reduceMul, Int.reduceAdd, Int.mul_one, Int.tdiv_eq_ediv_of_nonneg, Int.tmod_eq_emod_of_nonneg, ↓reduceIte, ↓zLet_eq, ↓zRd_ok, ↓zWr_ok, ↓zC_V, ↓zC_I, ↓zC_J, zUp_at, zUp_ne, q_up_at, q_up_ne, w32_of, w64_of, q_le_T, q_le_F, q_lt_T, q_lt_F, q_eq_T, q_eq_F, true_or, or_true, or_false, false_or, false_and, and_false]
  have l2 : ∀ (μ : ZMem) (K : ZMem → Option ZRes), L_Model_image_33 K zN 0 μ = K (q_fo μ 14 (μ 3) 7 (6 : Nat)) := fun μ K => by
    refine q_mapo (L := fun n j ν => L_Model_image_33 K n j ν) (fun n j hj => ?_) (fun n => ?_) (zN_gt (by omega))
    · have e : q_fo μ 14 (μ 3) 7 j 3 = μ 3 := q_fo_ne (by decide)
      simp (disch := omega) only [L_Model_image_33, Int.add_zero, Int.mul_zero, Int.reduceMul, Int.reduceAdd, Int.mul_one, Int.tdiv_eq_ediv_of_nonneg, Int.tmod_eq_emod_of_nonneg, ↓reduceIte, ↓zLet_eq, ↓zRd_ok, ↓zWr_ok, ↓zC_V, ↓zC_I, ↓zC_J, zUp_at, zUp_ne, q_up_at, q_up_ne, w32_of, w64_of, q_le_T, q_le_F, q_lt_T, q_lt_F, q_eq_T, q_eq_F, true_or, or_true, or_false, false_or, false_and, and_false, e]
    · simp (disch := omega) only [L_Model_image_33, Int.add_zero, Int.mul_zero, Int.reduceMul, Int.reduceAdd, Int.mul_one, Int.tdiv_eq_ediv_of_nonneg, Int.tmod_eq_emod_of_nonneg, ↓reduceIte, ↓zLet_eq, ↓zRd_ok, ↓zWr_ok, ↓zC_V, ↓zC_I, ↓zC_J, zUp_at, zUp_ne, q_up_at, q_up_ne, w32_of, w64_of, q_le_T, q_le_F, q_lt_T, q_lt_F, q_eq_T, q_eq_F, true_or, or_true, or_false, false_or, false_and, and_false]
  have l3 : ∀ (μ : ZMem) (K : ZMem → Option ZRes), L_Model_image_95 K zN 0 μ = K (q_fo μ 14 (μ 4) 16 (6 : Nat)) := fun μ K => by
    refine q_mapo (L := fun n j ν => L_Model_image_95 K n j ν) (fun n j hj => ?_) (fun n => ?_) (zN_gt (by omega))
    · have e : q_fo μ 14 (μ 4) 16 j 4 = μ 4 := q_fo_ne (by decide)
      simp (disch := omega) only [L_Model_image_95, Int.add_zero, Int.mul_zero, Int.reduceMul, Int.reduceAdd, Int.mul_one, Int.tdiv_eq_ediv_of_nonneg, Int.tmod_eq_emod_of_nonneg, ↓reduceIte, ↓zLet_eq, ↓zRd_ok, ↓zWr_ok, ↓zC_V, ↓zC_I, ↓zC_J, zUp_at, zUp_ne, q_up_at, q_up_ne, w32_of, w64_of, q_le_T, q_le_F, q_lt_T, q_lt_F, q_eq_T, q_eq_F, true_or, or_true, or_false, false_or, false_and, and_false, e]
    · simp (disch := omega) only [L_Model_image_95, Int.add_zero, Int.mul_zero, Int.reduceMul, Int.reduceAdd, Int.mul_one, Int.tdiv_eq_ediv_of_nonneg, Int.tmod_eq_emod_of_nonneg, ↓reduceIte, ↓zLet_eq, ↓zRd_ok, ↓zWr_ok, ↓zC_V, ↓zC_I, ↓zC_J, zUp_at, zUp_ne, q_up_at, q_up_ne, w32_of, w64_of, q_le_T, q_le_F, q_lt_T, q_lt_F, q_eq_T, q_eq_F, true_or, or_true, or_false, false_or, false_and, and_false]
  have l4 : ∀ (μ : ZMem) (K : ZMem → Option ZRes), L_Model_image_124 K zN 0 μ = K (q_fo μ 14 (μ 8) 22 (300 : Nat)) := fun μ K => by
    refine q_mapo (L := fun n j ν => L_Model_image_124 K n j ν) (fun n j hj => ?_) (fun n => ?_) (zN_gt (by omega))
    · have e : q_fo μ 14 (μ 8) 22 j 8 = μ 8 := q_fo_ne (by decide)
      simp (disch := omega) only [L_Model_image_124, Int.add_zero, Int.mul_zero, Int.reduceMul, Int.reduceAdd, Int.mul_one, Int.tdiv_eq_ediv_of_nonneg, Int.tmod_eq_emod_of_nonneg, ↓reduceIte, ↓zLet_eq, ↓zRd_ok, ↓zWr_ok, ↓zC_V, ↓zC_I, ↓zC_J, zUp_at, zUp_ne, q_up_at, q_up_ne, w32_of, w64_of, q_le_T, q_le_F, q_lt_T, q_lt_F, q_eq_T, q_eq_F, true_or, or_true, or_false, false_or, false_and, and_false, e]
    · simp (disch := omega) only [L_Model_image_124, Int.add_zero, Int.mul_zero, Int.reduceMul, Int.reduceAdd, Int.mul_one, Int.tdiv_eq_ediv_of_nonneg, Int.tmod_eq_emod_of_nonneg, ↓reduceIte, ↓zLet_eq, ↓zRd_ok, ↓zWr_ok, ↓zC_V, ↓zC_I, ↓zC_J, zUp_at, zUp_ne, q_up_at, q_up_ne, w32_of, w64_of, q_le_T, q_le_F, q_lt_T, q_lt_F, q_eq_T, q_eq_F, true_or, or_true, or_false, false_or, false_and, and_false]
  generalize h1 : q_fi (zUp μ 0 0 0) 14 (zUp μ 0 0 0 2) (7 : Nat) = μ1
  have c1 : ∀ c, c ≠ 14 → μ1 c = zUp μ 0 0 0 c := fun c hc => by rw [← h1, q_fi_ne hc]
  generalize h2 : q_fo μ1 14 (μ1 3) 7 (6 : Nat) = μ2
  have c2 : ∀ c, c ≠ 14 → μ2 c = zUp μ 0 0 0 c := fun c hc => by rw [← h2, q_fo_ne hc, c1 c hc]
  have w6 : zUp μ2 14 13 (μ2 0 5) 0 6 = μ2 0 6 := by rw [zUp_ne (by decide)]
  have w11 : zUp (zUp μ2 14 13 (μ2 0 5)) 14 14 (μ2 0 6) 0 11 = μ2 0 11 := by rw [zUp_ne (by decide), zUp_ne (by decide)]
  generalize h3 : zUp (zUp (zUp μ2 14 13 (μ2 0 5)) 14 14 (μ2 0 6)) 14 15 (μ2 0 11) = μ3
  have c3 : ∀ c, c ≠ 14 → μ3 c = zUp μ 0 0 0 c := fun c hc => by rw [← h3, zUp_ne hc, zUp_ne hc, zUp_ne hc, c2 c hc]
  generalize h4 : q_fo μ3 14 (μ3 4) 16 (6 : Nat) = μ4
  have c4 : ∀ c, c ≠ 14 → μ4 c = zUp μ 0 0 0 c := fun c hc => by rw [← h4, q_fo_ne hc, c3 c hc]
  generalize h5 : q_fo μ4 14 (μ4 8) 22 (300 : Nat) = μ5
  have c5 : ∀ c, c ≠ 14 → μ5 c = zUp μ 0 0 0 c := fun c hc => by rw [← h5, q_fo_ne hc, c4 c hc]
  have d0 : ∀ k, k ≠ 0 → zUp μ 0 0 0 0 k = μ 0 k := fun k hk => by rw [zUp_at, q_up_ne hk]
  have t5 : ∀ k, k < 22 → μ5 14 k = μ4 14 k := fun k hk => by rw [← h5, q_fo_out (by omega)]
  have t4 : ∀ k, k < 16 → μ4 14 k = μ3 14 k := fun k hk => by rw [← h4, q_fo_out (by omega)]
  have t3 : ∀ k, k < 13 → μ3 14 k = μ2 14 k := fun k hk => by rw [← h3, zUp_at, q_up_ne (by omega), zUp_at, q_up_ne (by omega), zUp_at, q_up_ne (by omega)]
  have t2 : ∀ k, k < 7 → μ2 14 k = μ1 14 k := fun k hk => by rw [← h2, q_fo_out (by omega)]
  have u2 : μ2 0 = zUp μ 0 0 0 0 := c2 0 (by decide)
  refine ⟨zUp μ5 0 19 1, ?_, fun c k0 k1 => ?_, fun k k0 k1 => ?_, ?_, ?_, fun i i0 i1 => ?_, fun i i0 i1 => ?_, ?_, ?_, ?_, fun i i0 i1 => ?_, fun i i0 i1 => ?_⟩
  · unfold F_Model_image
    rw [zLet_eq, l1, h1, l2, h2, zWr_ok (by decide) (by decide) (by decide), zWr_ok (by decide) (by decide) (by decide), zWr_ok (by decide) (by decide) (by decide), w6, w11, h3, l3, h4, l4, h5, zLet_eq]
  · rw [zUp_ne k0, c5 c k1, zUp_ne k0]
  · rw [zUp_at, q_up_ne k1, c5 0 (by decide), d0 k k0]
  · rw [zUp_at, q_up_ne (by decide), c5 0 (by decide), zUp_at, q_up_at]
  · rw [zUp_at, q_up_at]
  · rw [zUp_ne (by decide), t5 _ (by omega), t4 _ (by omega), t3 _ (by omega), t2 _ (by omega), ← h1, q_fi_in i0 (by omega), zUp_ne (by decide)]
  · rw [zUp_ne (by decide), t5 _ (by omega), t4 _ (by omega), t3 _ (by omega), ← h2, q_fo_in i0 (by omega), c1 3 (by decide), zUp_ne (by decide)]
  · rw [zUp_ne (by decide), t5 _ (by omega), t4 _ (by omega), ← h3, zUp_at, q_up_ne (by decide), zUp_at, q_up_ne (by decide), zUp_at, q_up_at, u2, d0 5 (by decide)]
  · rw [zUp_ne (by decide), t5 _ (by omega), t4 _ (by omega), ← h3, zUp_at, q_up_ne (by decide), zUp_at, q_up_at, u2, d0 6 (by decide)]
  · rw [zUp_ne (by decide), t5 _ (by omega), t4 _ (by omega), ← h3, zUp_at, q_up_at, u2, d0 11 (by decide)]
  · rw [zUp_ne (by decide), t5 _ (by omega), ← h4, q_fo_in i0 (by omega), c3 4 (by decide), zUp_ne (by decide)]
  · rw [zUp_ne (by decide), ← h5, q_fo_in i0 (by omega), c4 8 (by decide), zUp_ne (by decide)]
theorem act_image (h : z_all m dl a κ μ) : ∃ κ' μ', F_Ledger_image κ = some (.inr none, κ') ∧ F_Model_image μ = some (.inr none, μ') ∧ z_all m dl a κ' μ' ∧ μ' 0 0 = 0 := by
  obtain ⟨hf, h6, hdl, ht, ⟨m5, m6, m11, ha⟩, ⟨k3, k4, k11⟩, hi, hq, hs⟩ := h.1.all
  obtain ⟨⟨M, C⟩, hT, hZ, hP, hI⟩ := h
  have hC : c_fd m dl (μ 2) (μ 4) (μ 3) (κ 3) (κ 4) (κ 5) (κ 6) := C.1
  have hJ : c_jn m a (μ 2) (μ 4) (μ 3) (μ 8) (κ 11) (κ 12) := C.2.1
  obtain ⟨ν1, r1, w1, w2, w3, w4, f1⟩ := f_copyFund (ν := zVw plI1 κ) hC.2.2.1
  have o1 : ∀ c, c < 109 ∨ 113 ≤ c → zMg plI1 κ ν1 c = κ c := fun c hc => zMg_4 f1 (by
    show c ∉ [109, 110, 111, 112]
    simp only [List.mem_cons, List.not_mem_nil, or_false]
    omega)
  have hC1 : c_fd m dl (μ 2) (μ 4) (μ 3) (zMg plI1 κ ν1 109) (zMg plI1 κ ν1 110) (zMg plI1 κ ν1 111) (zMg plI1 κ ν1 112) := by
    rw [zMg_in (pl := plI1) (c := 109) (j := 0) (by decide), zMg_in (pl := plI1) (c := 110) (j := 1) (by decide), zMg_in (pl := plI1) (c := 111) (j := 2) (by decide), zMg_in (pl := plI1) (c := 112) (j := 3) (by decide)]
    exact hC.of h6 w1 w2 w3 w4
  generalize hκ1 : zMg plI1 κ ν1 = κ1 at *
  obtain ⟨ν2, r2, v1, v2, f2⟩ := f_copyJournal (zVw plI2 κ1)
  have o2 : ∀ c, c < 113 ∨ 115 ≤ c → zMg plI2 κ1 ν2 c = κ1 c := fun c hc => zMg_2 f2 (by
    show c ∉ [113, 114]
    simp only [List.mem_cons, List.not_mem_nil, or_false]
    omega)
  have hJ1 : c_jn m a (μ 2) (μ 4) (μ 3) (μ 8) (zMg plI2 κ1 ν2 113) (zMg plI2 κ1 ν2 114) := by
    rw [zMg_in (pl := plI2) (c := 113) (j := 0) (by decide), zMg_in (pl := plI2) (c := 114) (j := 1) (by decide)]
    refine hJ.of ha ?_ (fun k k0 k1 => ?_)
    · rw [v1]
      show κ1 11 1 = _
      rw [o1 11 (by decide)]
    · rw [v2 k k0 k1]
      show κ1 12 k = _
      rw [o1 12 (by decide)]
  generalize hκ2 : zMg plI2 κ1 ν2 = κ2 at *
  have oo : ∀ c, c ≠ 0 → c < 109 ∨ 115 ≤ c → zUp κ2 0 11 1 c = κ c := fun c c0 hc => by rw [zUp_ne c0, o2 c (by omega), o1 c (by omega)]
  obtain ⟨μ', r3, g1, g2, g3, g4, x1, x2, x3, x4, x5, x6, x7⟩ := m_image μ
  refine ⟨zUp κ2 0 11 1, μ', ?_, r3, ⟨⟨M.cong (fun c c0 c1 => g1 c (by omega) (by omega)) (fun k hk => g2 k (by omega) (by omega)), ?_⟩, ?_, ?_, ?_, Or.inr ⟨by rw [zUp_at, q_up_at], g4, m, dl, a, μ 2, μ 4, μ 3, μ 8, ⟨hZ.1, hZ.2.1, hZ.2.2.1, hZ.2.2.2⟩, hf, M.2.2.1, ?_, ?_, ?_⟩⟩, g3⟩
  · unfold F_Ledger_image
    rw [r1, zCm_V, hκ1, r2, zCm_V, hκ2, zLet_eq]
  · rw [g1 2 (by decide) (by decide), g1 3 (by decide) (by decide), g1 4 (by decide) (by decide), g1 8 (by decide) (by decide)]
    exact C.cg (fun c c0 c1 => oo c (by omega) (by omega))
  · intro k hk
    rw [g1 1 (by decide) (by decide)]; exact hT k hk
  · unfold m_zz
    rw [g1 2 (by decide) (by decide), g1 3 (by decide) (by decide), g1 4 (by decide) (by decide), g1 8 (by decide) (by decide)]
    exact hZ
  · unfold z_tp
    rw [oo 1 (by decide) (by decide), oo 2 (by decide) (by decide), g1 15 (by decide) (by decide), g2 21 (by decide) (by decide), g2 24 (by decide) (by decide)]
    exact hP
  · rw [zUp_ne (by decide), zUp_ne (by decide), zUp_ne (by decide), zUp_ne (by decide), o2 109 (by decide), o2 110 (by decide), o2 111 (by decide), o2 112 (by decide)]
    exact hC1
  · rw [zUp_ne (by decide), zUp_ne (by decide)]
    exact hJ1
  · exact ⟨x1, x2, x3.trans m5, x4.trans m6, x5.trans m11, x6, x7⟩
theorem m_back0 {m dl a : Nat} (hk : m_im m dl a tm ex pr J (μ 14)) (z : q_z 7 tm ∧ q_z 6 pr ∧ q_z 6 ex ∧ q_z 300 J) (y : m_zz μ) (h19 : μ 0 19 = 1) : ∃ μ1, F_Model_back μ = zC (F_Model_worksOut μ1) (zkV (fun μ24 => some (.inr (some (zI 1)), μ24))) zX0 ∧ (∀ c, c ≠ 0 → c ≠ 2 → c ≠ 3 → c ≠ 4 → c ≠ 8 → μ1 c = μ c) ∧ (∀ k, k ≠ 0 → k ≠ 5 → k ≠ 6 → k ≠ 11 → μ1 0 k = μ 0 k) ∧ μ1 0 0 = 0 ∧ μ1 0 5 = m ∧ μ1 0 6 = dl ∧ μ1 0 11 = a ∧ μ1 2 = tm ∧ μ1 3 = pr ∧ μ1 4 = ex ∧ μ1 8 = J := by
  have l1 : ∀ (μ : ZMem) (K : ZMem → Option ZRes), L_Model_back_16 K zN 0 μ = K (q_fi μ 2 (μ 14) (7 : Nat)) := fun μ K => by
    refine q_map (L := fun n j ν => L_Model_back_16 K n j ν) (fun n j hj => ?_) (fun n => ?_) (zN_gt (by omega))
    · have e : q_fi μ 2 (μ 14) j 14 = μ 14 := q_fi_ne (by decide)
      simp (disch := omega) only [L_Model_back_16, Int.add_zero, Int.mul_zero, Int.reduceMul, Int.reduceAdd, Int.mul_one, Int.tdiv_eq_ediv_of_nonneg, Int.tmod_eq_emod_of_nonneg, ↓reduceIte, ↓zLet_eq, ↓zRd_ok, ↓zWr_ok, ↓zC_V, ↓zC_I, ↓zC_J, zUp_at, zUp_ne, q_up_at, q_up_ne, w32_of, w64_of, q_le_T, q_le_F, q_lt_T, q_lt_F, q_eq_T, q_eq_F, true_or, or_true, or_false, false_or, false_and, and_false, e]
    · simp (disch := omega) only [L_Model_back_16, Int.add_zero, Int.mul_zero, Int.reduceMul, Int.reduceAdd, Int.mul_one, Int.tdiv_eq_ediv_of_nonneg, Int.tmod_eq_emod_of_nonneg, ↓reduceIte, ↓zLet_eq, ↓zRd_ok, ↓zWr_ok, ↓zC_V, ↓zC_I, ↓zC_J, zUp_at, zUp_ne, q_up_at, q_up_ne, w32_of, w64_of, q_le_T, q_le_F, q_lt_T, q_lt_F, q_eq_T, q_eq_F, true_or, or_true, or_false, false_or, false_and, and_false]
  have l2 : ∀ (μ : ZMem) (K : ZMem → Option ZRes), L_Model_back_42 K zN 0 μ = K (q_fi μ 3 (fun i => μ 14 (7 + i)) (6 : Nat)) := fun μ K => by
    refine q_map (L := fun n j ν => L_Model_back_42 K n j ν) (fun n j hj => ?_) (fun n => ?_) (zN_gt (by omega))
    · have e : q_fi μ 3 (fun i => μ 14 (7 + i)) j 14 = μ 14 := q_fi_ne (by decide)
      simp (disch := omega) only [L_Model_back_42, Int.add_zero, Int.mul_zero, Int.reduceMul, Int.reduceAdd, Int.mul_one, Int.tdiv_eq_ediv_of_nonneg, Int.tmod_eq_emod_of_nonneg, ↓reduceIte, ↓zLet_eq, ↓zRd_ok, ↓zWr_ok, ↓zC_V, ↓zC_I, ↓zC_J, zUp_at, zUp_ne, q_up_at, q_up_ne, w32_of, w64_of, q_le_T, q_le_F, q_lt_T, q_lt_F, q_eq_T, q_eq_F, true_or, or_true, or_false, false_or, false_and, and_false, e]
    · simp (disch := omega) only [L_Model_back_42, Int.add_zero, Int.mul_zero, Int.reduceMul, Int.reduceAdd, Int.mul_one, Int.tdiv_eq_ediv_of_nonneg, Int.tmod_eq_emod_of_nonneg, ↓reduceIte, ↓zLet_eq, ↓zRd_ok, ↓zWr_ok, ↓zC_V, ↓zC_I, ↓zC_J, zUp_at, zUp_ne, q_up_at, q_up_ne, w32_of, w64_of, q_le_T, q_le_F, q_lt_T, q_lt_F, q_eq_T, q_eq_F, true_or, or_true, or_false, false_or, false_and, and_false]
  have l3 : ∀ (μ : ZMem) (K : ZMem → Option ZRes), L_Model_back_104 K zN 0 μ = K (q_fi μ 4 (fun i => μ 14 (16 + i)) (6 : Nat)) := fun μ K => by
    refine q_map (L := fun n j ν => L_Model_back_104 K n j ν) (fun n j hj => ?_) (fun n => ?_) (zN_gt (by omega))
    · have e : q_fi μ 4 (fun i => μ 14 (16 + i)) j 14 = μ 14 := q_fi_ne (by decide)
      simp (disch := omega) only [L_Model_back_104, Int.add_zero, Int.mul_zero, Int.reduceMul, Int.reduceAdd, Int.mul_one, Int.tdiv_eq_ediv_of_nonneg, Int.tmod_eq_emod_of_nonneg, ↓reduceIte, ↓zLet_eq, ↓zRd_ok, ↓zWr_ok, ↓zC_V, ↓zC_I, ↓zC_J, zUp_at, zUp_ne, q_up_at, q_up_ne, w32_of, w64_of, q_le_T, q_le_F, q_lt_T, q_lt_F, q_eq_T, q_eq_F, true_or, or_true, or_false, false_or, false_and, and_false, e]
    · simp (disch := omega) only [L_Model_back_104, Int.add_zero, Int.mul_zero, Int.reduceMul, Int.reduceAdd, Int.mul_one, Int.tdiv_eq_ediv_of_nonneg, Int.tmod_eq_emod_of_nonneg, ↓reduceIte, ↓zLet_eq, ↓zRd_ok, ↓zWr_ok, ↓zC_V, ↓zC_I, ↓zC_J, zUp_at, zUp_ne, q_up_at, q_up_ne, w32_of, w64_of, q_le_T, q_le_F, q_lt_T, q_lt_F, q_eq_T, q_eq_F, true_or, or_true, or_false, false_or, false_and, and_false]
  have l4 : ∀ (μ : ZMem) (K : ZMem → Option ZRes), L_Model_back_133 K zN 0 μ = K (q_fi μ 8 (fun i => μ 14 (22 + i)) (300 : Nat)) := fun μ K => by
    refine q_map (L := fun n j ν => L_Model_back_133 K n j ν) (fun n j hj => ?_) (fun n => ?_) (zN_gt (by omega))
    · have e : q_fi μ 8 (fun i => μ 14 (22 + i)) j 14 = μ 14 := q_fi_ne (by decide)
      simp (disch := omega) only [L_Model_back_133, Int.add_zero, Int.mul_zero, Int.reduceMul, Int.reduceAdd, Int.mul_one, Int.tdiv_eq_ediv_of_nonneg, Int.tmod_eq_emod_of_nonneg, ↓reduceIte, ↓zLet_eq, ↓zRd_ok, ↓zWr_ok, ↓zC_V, ↓zC_I, ↓zC_J, zUp_at, zUp_ne, q_up_at, q_up_ne, w32_of, w64_of, q_le_T, q_le_F, q_lt_T, q_lt_F, q_eq_T, q_eq_F, true_or, or_true, or_false, false_or, false_and, and_false, e]
    · simp (disch := omega) only [L_Model_back_133, Int.add_zero, Int.mul_zero, Int.reduceMul, Int.reduceAdd, Int.mul_one, Int.tdiv_eq_ediv_of_nonneg, Int.tmod_eq_emod_of_nonneg, ↓reduceIte, ↓zLet_eq, ↓zRd_ok, ↓zWr_ok, ↓zC_V, ↓zC_I, ↓zC_J, zUp_at, zUp_ne, q_up_at, q_up_ne, w32_of, w64_of, q_le_T, q_le_F, q_lt_T, q_lt_F, q_eq_T, q_eq_F, true_or, or_true, or_false, false_or, false_and, and_false]
  obtain ⟨i1, i2, i3, i4, i5, i6, i7⟩ := hk
  obtain ⟨z1, z2, z3, z4⟩ := z
  obtain ⟨y1, y2, y3, y4⟩ := y
  generalize h1 : q_fi (zUp μ 0 0 0) 2 (zUp μ 0 0 0 14) (7 : Nat) = μ1
  have a14 : μ1 14 = μ 14 := by rw [← h1, q_fi_ne (by decide), zUp_ne (by decide)]
  generalize h2 : q_fi μ1 3 (fun i => μ1 14 (7 + i)) (6 : Nat) = μ2
  have b14 : μ2 14 = μ 14 := by rw [← h2, q_fi_ne (by decide), a14]
  generalize h3 : zUp (zUp (zUp μ2 0 5 m) 0 6 dl) 0 11 a = μ3
  have c14 : μ3 14 = μ 14 := by rw [← h3, zUp_ne (by decide), zUp_ne (by decide), zUp_ne (by decide), b14]
  generalize h4 : q_fi μ3 4 (fun i => μ3 14 (16 + i)) (6 : Nat) = μ4
  have d14 : μ4 14 = μ 14 := by rw [← h4, q_fi_ne (by decide), c14]
  generalize h5 : q_fi μ4 8 (fun i => μ4 14 (22 + i)) (300 : Nat) = μ5
  have e0 : μ5 0 = μ3 0 := by rw [← h5, q_fi_ne (by decide), ← h4, q_fi_ne (by decide)]
  have e02 : μ2 0 = zUp μ 0 0 0 0 := by rw [← h2, q_fi_ne (by decide), ← h1, q_fi_ne (by decide)]
  have ec : ∀ c, c ≠ 0 → μ5 c = q_fi (q_fi (q_fi (q_fi (zUp μ 0 0 0) 2 (zUp μ 0 0 0 14) (7 : Nat)) 3 (fun i => μ1 14 (7 + i)) (6 : Nat)) 4 (fun i => μ3 14 (16 + i)) (6 : Nat)) 8 (fun i => μ4 14 (22 + i)) (300 : Nat) c := fun c c0 => by
    funext i
    rw [← h5]
    unfold q_fi
    by_cases q8 : c = 8 ∧ 0 ≤ i ∧ i < (300 : Nat)
    · rw [if_pos q8, if_pos q8]
    · rw [if_neg q8, if_neg q8, ← h4]
      unfold q_fi
      by_cases q4 : c = 4 ∧ 0 ≤ i ∧ i < (6 : Nat)
      · rw [if_pos q4, if_pos q4]
      · rw [if_neg q4, if_neg q4, ← h3, zUp_ne c0, zUp_ne c0, zUp_ne c0, ← h2]
        unfold q_fi
        by_cases q3 : c = 3 ∧ 0 ≤ i ∧ i < (6 : Nat)
        · rw [if_pos q3, if_pos q3]
        · rw [if_neg q3, if_neg q3, ← h1]
          rfl
  refine ⟨μ5, ?_, fun c c0 c2 c3 c4 c8 => ?_, fun k k0 k5 k6 k11 => ?_, ?_, ?_, ?_, ?_, ?_, ?_, ?_, ?_⟩
  · unfold F_Model_back
    rw [zLet_eq, zUp_at, q_up_ne (by decide), h19, w32_of (by decide) (by decide), if_neg (by decide), l1, h1, l2, h2, zRd_ok (by decide) (by decide) (by decide), b14, i3, zLet_eq, zRd_ok (by decide) (by decide) (by decide), zUp_ne (by decide), b14, i4, zLet_eq, zRd_ok (by decide) (by decide) (by decide), zUp_ne (by decide), zUp_ne (by decide), b14, i5, zLet_eq, h3, l3, h4, l4, h5]
  · rw [ec c c0, q_fi_ne c8, q_fi_ne c4, q_fi_ne c3, q_fi_ne c2, zUp_ne c0]
  · rw [e0, ← h3, zUp_at, q_up_ne k11, zUp_at, q_up_ne k6, zUp_at, q_up_ne k5, e02, zUp_at, q_up_ne k0]
  · rw [e0, ← h3, zUp_at, q_up_ne (by decide), zUp_at, q_up_ne (by decide), zUp_at, q_up_ne (by decide), e02, zUp_at, q_up_at]
  · rw [e0, ← h3, zUp_at, q_up_ne (by decide), zUp_at, q_up_ne (by decide), zUp_at, q_up_at]
  · rw [e0, ← h3, zUp_at, q_up_ne (by decide), zUp_at, q_up_at]
  · rw [e0, ← h3, zUp_at, q_up_at]
  · rw [ec 2 (by decide), q_fi_ne (by decide), q_fi_ne (by decide), q_fi_ne (by decide)]
    funext k
    by_cases hk : 0 ≤ k ∧ k < 7
    · rw [q_fi_in hk.1 (by omega), zUp_ne (by decide)]; exact i1 k hk.1 hk.2
    · rw [q_fi_out (by omega), zUp_ne (by decide), y1 k (by omega), z1 k (by omega)]
  · rw [ec 3 (by decide), q_fi_ne (by decide), q_fi_ne (by decide)]
    funext k
    by_cases hk : 0 ≤ k ∧ k < 6
    · rw [q_fi_in hk.1 (by omega), a14]; exact i2 k hk.1 hk.2
    · rw [q_fi_out (by omega), q_fi_ne (by decide), zUp_ne (by decide), y2 k (by omega), z2 k (by omega)]
  · rw [ec 4 (by decide), q_fi_ne (by decide)]
    funext k
    by_cases hk : 0 ≤ k ∧ k < 6
    · rw [q_fi_in hk.1 (by omega), c14]; exact i6 k hk.1 hk.2
    · rw [q_fi_out (by omega), q_fi_ne (by decide), q_fi_ne (by decide), zUp_ne (by decide), y3 k (by omega), z3 k (by omega)]
  · rw [ec 8 (by decide)]
    funext k
    by_cases hk : 0 ≤ k ∧ k < 300
    · rw [q_fi_in hk.1 (by omega), d14]; exact i7 k hk.1 hk.2
    · rw [q_fi_out (by omega), q_fi_ne (by decide), q_fi_ne (by decide), q_fi_ne (by decide), zUp_ne (by decide), y4 k (by omega), z4 k (by omega)]
theorem act_back (h : z_all m dl a κ μ) : z_step [] (F_Ledger_back κ) (F_Model_back μ) := by
  have hI := h.2.2.2.2
  rcases hI with ⟨k0, m0⟩ | ⟨k1, m1, m', dl', a', tm, ex, pr, J, hz, hf, hj, hC, hJ, hm⟩
  · refine z_step.ok (v := zI 0) (κ' := κ) (μ' := zUp μ 0 0 0) ?_ ?_ (h.up0 0) (by rw [zUp_at, q_up_at])
    · unfold F_Ledger_back
      rw [k0, w32_of (by decide) (by decide), if_pos rfl]
    · unfold F_Model_back
      rw [zLet_eq, zUp_at, q_up_ne (by decide), m0, w32_of (by decide) (by decide), if_pos rfl]
  · have ha := hj.1
    have h6 := hf.1
    obtain ⟨ν1, r1, w1, w2, w3, w4, f1⟩ := f_copyFund (ν := zVw plB1 κ) hC.2.2.1
    have o1 : ∀ c, c < 3 ∨ 7 ≤ c → zMg plB1 κ ν1 c = κ c := fun c hc => zMg_4 f1 (by
      show c ∉ [3, 4, 5, 6]
      simp only [List.mem_cons, List.not_mem_nil, or_false]
      omega)
    have hC1 : c_fd m' dl' tm ex pr (zMg plB1 κ ν1 3) (zMg plB1 κ ν1 4) (zMg plB1 κ ν1 5) (zMg plB1 κ ν1 6) := by
      rw [zMg_in (pl := plB1) (c := 3) (j := 0) (by decide), zMg_in (pl := plB1) (c := 4) (j := 1) (by decide), zMg_in (pl := plB1) (c := 5) (j := 2) (by decide), zMg_in (pl := plB1) (c := 6) (j := 3) (by decide)]
      exact hC.of h6 w1 w2 w3 w4
    generalize hκ1 : zMg plB1 κ ν1 = κ1 at *
    obtain ⟨ν2, r2, v1, v2, f2⟩ := f_copyJournal (zVw plB2 κ1)
    have o2 : ∀ c, c < 11 ∨ 13 ≤ c → zMg plB2 κ1 ν2 c = κ1 c := fun c hc => zMg_2 f2 (by
      show c ∉ [11, 12]
      simp only [List.mem_cons, List.not_mem_nil, or_false]
      omega)
    have hJ1 : c_jn m' a' tm ex pr J (zMg plB2 κ1 ν2 11) (zMg plB2 κ1 ν2 12) := by
      rw [zMg_in (pl := plB2) (c := 11) (j := 0) (by decide), zMg_in (pl := plB2) (c := 12) (j := 1) (by decide)]
      refine hJ.of ha ?_ (fun k k0 k1 => ?_)
      · rw [v1]
        show κ1 113 1 = _
        rw [o1 113 (by decide)]
      · rw [v2 k k0 k1]
        show κ1 114 k = _
        rw [o1 114 (by decide)]
    generalize hκ2 : zMg plB2 κ1 ν2 = κ2 at *
    have hC2 : c_fd m' dl' tm ex pr (κ2 3) (κ2 4) (κ2 5) (κ2 6) := by
      rw [o2 3 (by decide), o2 4 (by decide), o2 5 (by decide), o2 6 (by decide)]
      exact hC1
    have oo : ∀ c, c < 3 ∨ 13 ≤ c → κ2 c = κ c := fun c hc => by rw [o2 c (by omega), o1 c (by omega)]
    obtain ⟨κ3, r3, s3, f3⟩ := k_anew hC2 hJ1.1 hJ1.2.1 (by rw [oo 13 (by decide)]; exact h.1.2.2.2.1.2.1) hf hj
    obtain ⟨μ1, r4, g1, g2, g3, g5, g6, g11, t2, t3, t4, t8⟩ := m_back0 hm hz h.2.2.1 m1
    have cf1 : m_cf m' dl' μ1 := by
      obtain ⟨-, -, -, w4, w5, w6, w7⟩ := h.1.1.1
      exact ⟨g5, g6, by rw [t2, t3, t4]; exact hf, by rw [g1 5 (by decide) (by decide) (by decide) (by decide) (by decide)]; exact w4, by rw [g1 6 (by decide) (by decide) (by decide) (by decide) (by decide)]; exact w5, by rw [g1 7 (by decide) (by decide) (by decide) (by decide) (by decide)]; exact w6, by rw [g2 14 (by decide) (by decide) (by decide) (by decide)]; exact w7⟩
    obtain ⟨μ2, r5, kp, M2⟩ := m_worksOutS cf1 g11 (by rw [t2, t3, t4, t8]; exact hj)
    obtain ⟨e1, e2, e3, e4, e8, e5, e6, e11⟩ := kp.at
    rw [t2] at e2
    rw [t3] at e3
    rw [t4] at e4
    rw [t8] at e8
    have kc : ∀ c, c = 1 ∨ c = 14 ∨ c = 15 → μ2 c = μ c := fun c hc => by rw [kp.1 c (by omega) (by omega) (by omega) (by omega) (by omega) (by omega) (by omega) (by omega) (by omega) (by omega), g1 c (by omega) (by omega) (by omega) (by omega) (by omega)]
    have C' : c_at m' dl' a' (μ2 2) (μ2 4) (μ2 3) (μ2 8) κ3 := by
      rw [e2, e3, e4, e8]
      refine ⟨?_, ?_, s3, ?_⟩
      · show c_fd m' dl' tm ex pr (κ3 3) (κ3 4) (κ3 5) (κ3 6)
        rw [f3 3 (by decide), f3 4 (by decide), f3 5 (by decide), f3 6 (by decide)]
        exact hC2
      · show c_jn m' a' tm ex pr J (κ3 11) (κ3 12)
        rw [f3 11 (by decide), f3 12 (by decide)]
        exact hJ1
      · rw [f3 32 (by decide), oo 32 (by decide)]; exact h.1.2.2.2.2
    refine z_step.ok (v := zI 1) (κ' := κ3) (μ' := μ2) ?_ ?_ (h.f ⟨M2, C'⟩ (fun c hc => by rw [f3 c (by omega), oo c (by omega)]) ⟨kc, fun k hk => by rw [kp.2 k (by omega) (by omega) (by omega), g2 k (by omega) (by omega) (by omega) (by omega)]⟩ ?_) ?_
    · unfold F_Ledger_back
      rw [k1, w32_of (by decide) (by decide), if_neg (by decide), r1, zCm_V, hκ1, r2, zCm_V, hκ2, r3, zC_V]
    · rw [r4, r5, zC_V]
    · unfold m_zz
      rw [e2, e3, e4, e8]
      exact ⟨hz.1, hz.2.1, hz.2.2.1, hz.2.2.2⟩
    · rw [kp.2 0 (by decide) (by decide) (by decide)]; exact g3
end GE
