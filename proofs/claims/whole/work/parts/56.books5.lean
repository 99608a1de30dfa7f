/-! ===== rows filled; the class's books opened, copied ===== -/
theorem f_Arrays_fill (v : Int) (ν : ZMem) : F_Arrays_fill v ν = some (.inr none, q_fi ν 0 (fun _ => v) (32 : Nat)) := by
  unfold F_Arrays_fill
  refine q_map (L := fun n j ν => L_Arrays_fill_6 v (fun μ3 => some (.inr none, μ3)) n j ν) (K := fun μ3 => some (.inr none, μ3)) (fun n j hj => ?_) (fun n => ?_) (zN_gt (by omega))
  · simp (disch := omega) only [L_Arrays_fill_6, Int.add_zero, Int.mul_zero, Int.reduceMul, Int.reduceAdd, Int.mul_one, Int.tdiv_eq_ediv_of_nonneg, Int.tmod_eq_emod_of_nonneg, ↓reduceIte, ↓zLet_eq, ↓zRd_ok, ↓zWr_ok, ↓zC_V, ↓zC_I, ↓zC_J, zUp_at, zUp_ne, q_up_at, q_up_ne, w32_of, w64_of, q_le_T, q_le_F, q_lt_T, q_lt_F, q_eq_T, q_eq_F, true_or, or_true, or_false, false_or, false_and, and_false]
  · simp (disch := omega) only [L_Arrays_fill_6, Int.add_zero, Int.mul_zero, Int.reduceMul, Int.reduceAdd, Int.mul_one, Int.tdiv_eq_ediv_of_nonneg, Int.tmod_eq_emod_of_nonneg, ↓reduceIte, ↓zLet_eq, ↓zRd_ok, ↓zWr_ok, ↓zC_V, ↓zC_I, ↓zC_J, zUp_at, zUp_ne, q_up_at, q_up_ne, w32_of, w64_of, q_le_T, q_le_F, q_lt_T, q_lt_F, q_eq_T, q_eq_F, true_or, or_true, or_false, false_or, false_and, and_false]
theorem f_Arrays_fill_w2 (v : Int) (ν : ZMem) : F_Arrays_fill_w2 v ν = some (.inr none, q_fi ν 0 (fun _ => v) (24 : Nat)) := by
  unfold F_Arrays_fill_w2
  refine q_map (L := fun n j ν => L_Arrays_fill_w2_5 v (fun μ3 => some (.inr none, μ3)) n j ν) (K := fun μ3 => some (.inr none, μ3)) (fun n j hj => ?_) (fun n => ?_) (zN_gt (by omega))
  · simp (disch := omega) only [L_Arrays_fill_w2_5, Int.add_zero, Int.mul_zero, Int.reduceMul, Int.reduceAdd, Int.mul_one, Int.tdiv_eq_ediv_of_nonneg, Int.tmod_eq_emod_of_nonneg, ↓reduceIte, ↓zLet_eq, ↓zRd_ok, ↓zWr_ok, ↓zC_V, ↓zC_I, ↓zC_J, zUp_at, zUp_ne, q_up_at, q_up_ne, w32_of, w64_of, q_le_T, q_le_F, q_lt_T, q_lt_F, q_eq_T, q_eq_F, true_or, or_true, or_false, false_or, false_and, and_false]
  · simp (disch := omega) only [L_Arrays_fill_w2_5, Int.add_zero, Int.mul_zero, Int.reduceMul, Int.reduceAdd, Int.mul_one, Int.tdiv_eq_ediv_of_nonneg, Int.tmod_eq_emod_of_nonneg, ↓reduceIte, ↓zLet_eq, ↓zRd_ok, ↓zWr_ok, ↓zC_V, ↓zC_I, ↓zC_J, zUp_at, zUp_ne, q_up_at, q_up_ne, w32_of, w64_of, q_le_T, q_le_F, q_lt_T, q_lt_F, q_eq_T, q_eq_F, true_or, or_true, or_false, false_or, false_and, and_false]
theorem f_Arrays_fill_w3 (v : Int) (ν : ZMem) : F_Arrays_fill_w3 v ν = some (.inr none, q_fi ν 0 (fun _ => v) (4 : Nat)) := by
  unfold F_Arrays_fill_w3
  refine q_map (L := fun n j ν => L_Arrays_fill_w3_6 v (fun μ3 => some (.inr none, μ3)) n j ν) (K := fun μ3 => some (.inr none, μ3)) (fun n j hj => ?_) (fun n => ?_) (zN_gt (by omega))
  · simp (disch := omega) only [L_Arrays_fill_w3_6, Int.add_zero, Int.mul_zero, Int.reduceMul, Int.reduceAdd, Int.mul_one, Int.tdiv_eq_ediv_of_nonneg, Int.tmod_eq_emod_of_nonneg, ↓reduceIte, ↓zLet_eq, ↓zRd_ok, ↓zWr_ok, ↓zC_V, ↓zC_I, ↓zC_J, zUp_at, zUp_ne, q_up_at, q_up_ne, w32_of, w64_of, q_le_T, q_le_F, q_lt_T, q_lt_F, q_eq_T, q_eq_F, true_or, or_true, or_false, false_or, false_and, and_false]
  · simp (disch := omega) only [L_Arrays_fill_w3_6, Int.add_zero, Int.mul_zero, Int.reduceMul, Int.reduceAdd, Int.mul_one, Int.tdiv_eq_ediv_of_nonneg, Int.tmod_eq_emod_of_nonneg, ↓reduceIte, ↓zLet_eq, ↓zRd_ok, ↓zWr_ok, ↓zC_V, ↓zC_I, ↓zC_J, zUp_at, zUp_ne, q_up_at, q_up_ne, w32_of, w64_of, q_le_T, q_le_F, q_lt_T, q_lt_F, q_eq_T, q_eq_F, true_or, or_true, or_false, false_or, false_and, and_false]
theorem f_Arrays_fill_w4 (v : Int) (ν : ZMem) : F_Arrays_fill_w4 v ν = some (.inr none, q_fi ν 0 (fun _ => v) (6 : Nat)) := by
  unfold F_Arrays_fill_w4
  refine q_map (L := fun n j ν => L_Arrays_fill_w4_5 v (fun μ3 => some (.inr none, μ3)) n j ν) (K := fun μ3 => some (.inr none, μ3)) (fun n j hj => ?_) (fun n => ?_) (zN_gt (by omega))
  · simp (disch := omega) only [L_Arrays_fill_w4_5, Int.add_zero, Int.mul_zero, Int.reduceMul, Int.reduceAdd, Int.mul_one, Int.tdiv_eq_ediv_of_nonneg, Int.tmod_eq_emod_of_nonneg, ↓reduceIte, ↓zLet_eq, ↓zRd_ok, ↓zWr_ok, ↓zC_V, ↓zC_I, ↓zC_J, zUp_at, zUp_ne, q_up_at, q_up_ne, w32_of, w64_of, q_le_T, q_le_F, q_lt_T, q_lt_F, q_eq_T, q_eq_F, true_or, or_true, or_false, false_or, false_and, and_false]
  · simp (disch := omega) only [L_Arrays_fill_w4_5, Int.add_zero, Int.mul_zero, Int.reduceMul, Int.reduceAdd, Int.mul_one, Int.tdiv_eq_ediv_of_nonneg, Int.tmod_eq_emod_of_nonneg, ↓reduceIte, ↓zLet_eq, ↓zRd_ok, ↓zWr_ok, ↓zC_V, ↓zC_I, ↓zC_J, zUp_at, zUp_ne, q_up_at, q_up_ne, w32_of, w64_of, q_le_T, q_le_F, q_lt_T, q_lt_F, q_eq_T, q_eq_F, true_or, or_true, or_false, false_or, false_and, and_false]
theorem f_Arrays_fill_w5 (v : Int) (ν : ZMem) : F_Arrays_fill_w5 v ν = some (.inr none, q_fi ν 0 (fun _ => v) (6 : Nat)) := by
  unfold F_Arrays_fill_w5
  refine q_map (L := fun n j ν => L_Arrays_fill_w5_6 v (fun μ3 => some (.inr none, μ3)) n j ν) (K := fun μ3 => some (.inr none, μ3)) (fun n j hj => ?_) (fun n => ?_) (zN_gt (by omega))
  · simp (disch := omega) only [L_Arrays_fill_w5_6, Int.add_zero, Int.mul_zero, Int.reduceMul, Int.reduceAdd, Int.mul_one, Int.tdiv_eq_ediv_of_nonneg, Int.tmod_eq_emod_of_nonneg, ↓reduceIte, ↓zLet_eq, ↓zRd_ok, ↓zWr_ok, ↓zC_V, ↓zC_I, ↓zC_J, zUp_at, zUp_ne, q_up_at, q_up_ne, w32_of, w64_of, q_le_T, q_le_F, q_lt_T, q_lt_F, q_eq_T, q_eq_F, true_or, or_true, or_false, false_or, false_and, and_false]
  · simp (disch := omega) only [L_Arrays_fill_w5_6, Int.add_zero, Int.mul_zero, Int.reduceMul, Int.reduceAdd, Int.mul_one, Int.tdiv_eq_ediv_of_nonneg, Int.tmod_eq_emod_of_nonneg, ↓reduceIte, ↓zLet_eq, ↓zRd_ok, ↓zWr_ok, ↓zC_V, ↓zC_I, ↓zC_J, zUp_at, zUp_ne, q_up_at, q_up_ne, w32_of, w64_of, q_le_T, q_le_F, q_lt_T, q_lt_F, q_eq_T, q_eq_F, true_or, or_true, or_false, false_or, false_and, and_false]
theorem f_Arrays_fill_w6 (v : Int) (ν : ZMem) : F_Arrays_fill_w6 v ν = some (.inr none, q_fi ν 0 (fun _ => v) (1407 : Nat)) := by
  unfold F_Arrays_fill_w6
  refine q_map (L := fun n j ν => L_Arrays_fill_w6_6 v (fun μ3 => some (.inr none, μ3)) n j ν) (K := fun μ3 => some (.inr none, μ3)) (fun n j hj => ?_) (fun n => ?_) (zN_gt (by omega))
  · simp (disch := omega) only [L_Arrays_fill_w6_6, Int.add_zero, Int.mul_zero, Int.reduceMul, Int.reduceAdd, Int.mul_one, Int.tdiv_eq_ediv_of_nonneg, Int.tmod_eq_emod_of_nonneg, ↓reduceIte, ↓zLet_eq, ↓zRd_ok, ↓zWr_ok, ↓zC_V, ↓zC_I, ↓zC_J, zUp_at, zUp_ne, q_up_at, q_up_ne, w32_of, w64_of, q_le_T, q_le_F, q_lt_T, q_lt_F, q_eq_T, q_eq_F, true_or, or_true, or_false, false_or, false_and, and_false]
  · simp (disch := omega) only [L_Arrays_fill_w6_6, Int.add_zero, Int.mul_zero, Int.reduceMul, Int.reduceAdd, Int.mul_one, Int.tdiv_eq_ediv_of_nonneg, Int.tmod_eq_emod_of_nonneg, ↓reduceIte, ↓zLet_eq, ↓zRd_ok, ↓zWr_ok, ↓zC_V, ↓zC_I, ↓zC_J, zUp_at, zUp_ne, q_up_at, q_up_ne, w32_of, w64_of, q_le_T, q_le_F, q_lt_T, q_lt_F, q_eq_T, q_eq_F, true_or, or_true, or_false, false_or, false_and, and_false]
theorem f_Arrays_fill_w7 (v : Int) (ν : ZMem) : F_Arrays_fill_w7 v ν = some (.inr none, q_fi ν 0 (fun _ => v) (201 : Nat)) := by
  unfold F_Arrays_fill_w7
  refine q_map (L := fun n j ν => L_Arrays_fill_w7_6 v (fun μ3 => some (.inr none, μ3)) n j ν) (K := fun μ3 => some (.inr none, μ3)) (fun n j hj => ?_) (fun n => ?_) (zN_gt (by omega))
  · simp (disch := omega) only [L_Arrays_fill_w7_6, Int.add_zero, Int.mul_zero, Int.reduceMul, Int.reduceAdd, Int.mul_one, Int.tdiv_eq_ediv_of_nonneg, Int.tmod_eq_emod_of_nonneg, ↓reduceIte, ↓zLet_eq, ↓zRd_ok, ↓zWr_ok, ↓zC_V, ↓zC_I, ↓zC_J, zUp_at, zUp_ne, q_up_at, q_up_ne, w32_of, w64_of, q_le_T, q_le_F, q_lt_T, q_lt_F, q_eq_T, q_eq_F, true_or, or_true, or_false, false_or, false_and, and_false]
  · simp (disch := omega) only [L_Arrays_fill_w7_6, Int.add_zero, Int.mul_zero, Int.reduceMul, Int.reduceAdd, Int.mul_one, Int.tdiv_eq_ediv_of_nonneg, Int.tmod_eq_emod_of_nonneg, ↓reduceIte, ↓zLet_eq, ↓zRd_ok, ↓zWr_ok, ↓zC_V, ↓zC_I, ↓zC_J, zUp_at, zUp_ne, q_up_at, q_up_ne, w32_of, w64_of, q_le_T, q_le_F, q_lt_T, q_lt_F, q_eq_T, q_eq_F, true_or, or_true, or_false, false_or, false_and, and_false]
theorem f_Arrays_fill_w9 (v : Int) (ν : ZMem) : F_Arrays_fill_w9 v ν = some (.inr none, ν) := by
  unfold F_Arrays_fill_w9
  obtain ⟨n, hn⟩ : ∃ n, zN = n + 1 := ⟨zN - 1, by have := zN_gt (m := 1) (by omega); omega⟩
  rw [hn]
  simp (disch := omega) only [L_Arrays_fill_w9_6, Int.add_zero, Int.mul_zero, Int.reduceMul, Int.reduceAdd, Int.mul_one, Int.tdiv_eq_ediv_of_nonneg, Int.tmod_eq_emod_of_nonneg, ↓reduceIte, ↓zLet_eq, ↓zRd_ok, ↓zWr_ok, ↓zC_V, ↓zC_I, ↓zC_J, zUp_at, zUp_ne, q_up_at, q_up_ne, w32_of, w64_of, q_le_T, q_le_F, q_lt_T, q_lt_F, q_eq_T, q_eq_F, true_or, or_true, or_false, false_or, false_and, and_false]
theorem f_Arrays_fill_w8 (v : Int) (ν : ZMem) : F_Arrays_fill_w8 v ν = some (.inr none, q_fi ν 0 (fun _ => v) (7 : Nat)) := by
  unfold F_Arrays_fill_w8
  refine q_map (L := fun n j ν => L_Arrays_fill_w8_5 v (fun μ3 => some (.inr none, μ3)) n j ν) (K := fun μ3 => some (.inr none, μ3)) (fun n j hj => ?_) (fun n => ?_) (zN_gt (by omega))
  · simp (disch := omega) only [L_Arrays_fill_w8_5, Int.add_zero, Int.mul_zero, Int.reduceMul, Int.reduceAdd, Int.mul_one, Int.tdiv_eq_ediv_of_nonneg, Int.tmod_eq_emod_of_nonneg, ↓reduceIte, ↓zLet_eq, ↓zRd_ok, ↓zWr_ok, ↓zC_V, ↓zC_I, ↓zC_J, zUp_at, zUp_ne, q_up_at, q_up_ne, w32_of, w64_of, q_le_T, q_le_F, q_lt_T, q_lt_F, q_eq_T, q_eq_F, true_or, or_true, or_false, false_or, false_and, and_false]
  · simp (disch := omega) only [L_Arrays_fill_w8_5, Int.add_zero, Int.mul_zero, Int.reduceMul, Int.reduceAdd, Int.mul_one, Int.tdiv_eq_ediv_of_nonneg, Int.tmod_eq_emod_of_nonneg, ↓reduceIte, ↓zLet_eq, ↓zRd_ok, ↓zWr_ok, ↓zC_V, ↓zC_I, ↓zC_J, zUp_at, zUp_ne, q_up_at, q_up_ne, w32_of, w64_of, q_le_T, q_le_F, q_lt_T, q_lt_F, q_eq_T, q_eq_F, true_or, or_true, or_false, false_or, false_and, and_false]
theorem zCopy_at {μ : ZMem} {r0 r1 n : Nat} {i : Int} (h0 : 0 ≤ i) (h1 : i < n) : zCopy μ r0 r1 n r1 i = μ r0 i := if_pos ⟨rfl, h0, h1⟩
theorem zCopy_ne {μ : ZMem} {r0 r1 n c : Nat} (h : c ≠ r1) : zCopy μ r0 r1 n c = μ c := by
  funext i
  exact if_neg (fun q => h q.1)
theorem b_open {m dl : Nat} {tm pr : Int → Int} {μ : ZMem} (h6 : m ≤ 6) (ht : ∀ k, 0 ≤ k → k < 7 → μ 7 k = tm k) (hd : μ 6 4 = dl) : ∃ μ', F_Books_open μ = some (.inr none, μ') ∧ b_bk dl tm (q_s00 m pr) μ' ∧ (∀ c, 6 ≤ c → μ' c = μ c) := by
  have e0 : ∀ k, 30 ≤ k → q_s00 m pr k = 0 := fun k hk => if_neg (by omega)
  unfold F_Books_open
  simp only [↓zLet_eq, f_Arrays_fill, f_Arrays_fill_w2, f_Arrays_fill_w3, ↓zCm_V]
  refine ⟨_, rfl, ⟨fun k k0 k1 => ?_, fun k k0 k1 => ?_, fun k k0 k1 => ?_, fun k k0 k1 => ?_, fun k k0 k1 => ?_, ?_, ?_, ?_⟩, fun c hc => ?_⟩
  · simp (disch := omega) only [zUp_ne]
    show zCopy μ 7 1 7 1 k = tm k
    rw [zCopy_at k0 k1]
    exact ht k k0 k1
  · simp (disch := omega) only [zUp_ne]
    show q_fi _ 0 (fun _ => 0) (32 : Nat) 0 k = _
    rw [q_fi_in k0 (by omega), e0 _ (by omega)]
  · simp (disch := omega) only [zUp_ne]
    show q_fi _ 0 (fun _ => 0) (32 : Nat) 0 k = _
    rw [q_fi_in (by omega) (by omega), e0 _ (by omega)]
  · simp (disch := omega) only [zUp_ne]
    show q_fi _ 0 (fun _ => 0) (24 : Nat) 0 k = _
    rw [q_fi_in k0 (by omega), e0 _ (by omega)]
  · simp (disch := omega) only [zUp_ne]
    show q_fi _ 0 (fun _ => 0) (4 : Nat) 0 k = _
    rw [q_fi_in k0 (by omega), e0 _ (by omega)]
  · simp (disch := omega) only [zUp_at, q_up_ne, q_up_at]
    exact hd
  · simp (disch := omega) only [zUp_at, q_up_ne, q_up_at]
    rw [e0 _ (by omega)]
  · simp (disch := omega) only [zUp_at, q_up_ne, q_up_at]
    rw [e0 _ (by omega)]
  · simp (disch := omega) only [zUp_ne]
    have e : ∀ pl : List Nat, (∀ x ∈ pl, x < 6) → ∀ μ1 ν : ZMem, zMg pl μ1 ν c = μ1 c := fun pl hp μ1 ν => by
      funext i
      unfold zMg
      cases hx : zIx pl 0 c with
      | none => rfl
      | some j =>
        obtain ⟨-, hj⟩ := zIx_some hx
        have := hp c (List.mem_of_getElem? hj)
        omega
    rw [e [4] (by simp), e [3] (by simp), e [2] (by simp)]
    exact zCopy_ne (by omega)
theorem b_copyFrom {dl : Nat} {tm s : Int → Int} {μ : ZMem} (h : b_bk dl tm s (fun c => μ (c + 6))) (hE : s 91 = 0 ∨ s 91 = 1) : ∃ μ', F_Books_copyFrom μ = some (.inr none, μ') ∧ b_bk dl tm s μ' ∧ (∀ c, 6 ≤ c → μ' c = μ c) := by
  have h7 : μ 6 7 = s 91 := h.2.2.2.2.2.2.2
  have h6 : μ 6 6 = s 90 := h.2.2.2.2.2.2.1
  have h5 : μ 6 5 = dl := h.2.2.2.2.2.1
  have z : zUp (zUp (zCopy (zCopy (zCopy (zCopy μ 7 1 7) 8 2 32) 9 3 24) 10 4 4) 0 5 (μ 6 5)) 0 6 (μ 6 6) 6 7 = s 91 := by
    simp (disch := omega) only [zUp_ne, zCopy_ne]
    exact h7
  unfold F_Books_copyFrom
  simp (disch := omega) only [↓zLet_eq, zUp_ne, zCopy_ne]
  rw [h7, if_pos hE]
  refine ⟨_, rfl, ⟨fun k k0 k1 => ?_, fun k k0 k1 => ?_, fun k k0 k1 => ?_, fun k k0 k1 => ?_, fun k k0 k1 => ?_, ?_, ?_, ?_⟩, fun c hc => ?_⟩
  · simp (disch := omega) only [zUp_ne, zCopy_ne, zCopy_at]
    exact h.1 k k0 k1
  · simp (disch := omega) only [zUp_ne, zCopy_ne, zCopy_at]
    exact h.2.1 k k0 k1
  · simp (disch := omega) only [zUp_ne, zCopy_ne, zCopy_at]
    exact h.2.2.1 k k0 k1
  · simp (disch := omega) only [zUp_ne, zCopy_ne, zCopy_at]
    exact h.2.2.2.1 k k0 k1
  · simp (disch := omega) only [zUp_ne, zCopy_ne, zCopy_at]
    exact h.2.2.2.2.1 k k0 k1
  · simp (disch := omega) only [zUp_at, q_up_ne, q_up_at]
    exact h5
  · simp (disch := omega) only [zUp_at, q_up_ne, q_up_at]
    exact h6
  · simp (disch := omega) only [zUp_at, q_up_ne, q_up_at]
  · simp (disch := omega) only [zUp_ne, zCopy_ne]
