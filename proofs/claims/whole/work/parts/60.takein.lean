/-! ===== the class's state: who pays, who gets ===== -/
def s_T (m dl : Nat) (tm ex : Int → Int) (σ : QS) (μ : ZMem) : Prop := s_c m dl tm ex σ.1 μ ∧ μ 0 2 = 1 ∧ (∀ i : Int, 0 ≤ i → i < m → μ 11 i = σ.1 (5 * i + 3)) ∧ (∀ i q : Int, 0 ≤ i → i < m → 0 ≤ q → q < 201 → μ 17 (i * 201 + q) = σ.2.2.1 (201 * i + q) - σ.2.1 (201 * i + q)) ∧ (∀ q : Int, 0 ≤ q → q < 201 → μ 17 (1206 + q) = q_sm (fun i => σ.2.2.1 (201 * i + q) - σ.2.1 (201 * i + q)) m) ∧ (∀ q : Int, 0 ≤ q → q < 201 → μ 18 q = σ.2.2.2 q)
def s_U (m dl : Nat) (tm ex : Int → Int) (σ : QS) (μ : ZMem) : Prop := s_c m dl tm ex σ.1 μ ∧ μ 0 2 = 0
theorem f_Trace_add {i q x : Int} {ν : ZMem} (i0 : 0 ≤ i) (i1 : i < 6) (q0 : 0 ≤ q) (q1 : q < 201) : F_Trace_add i q x ν = some (.inr none, zUp (zUp ν 1 (i * 201 + q) (ν 1 (i * 201 + q) + x)) 1 (1206 + q) (ν 1 (1206 + q) + x)) := by
  unfold F_Trace_add
  simp (disch := omega) only [Int.add_zero, Int.mul_zero, Int.reduceMul, Int.reduceAdd, Int.mul_one, Int.tdiv_eq_ediv_of_nonneg, Int.tmod_eq_emod_of_nonneg, ↓reduceIte, ↓zLet_eq, ↓zRd_ok, ↓zWr_ok, ↓zC_V, ↓zC_I, ↓zC_J, zUp_at, zUp_ne, q_up_at, q_up_ne, w32_of, w64_of, q_le_T, q_le_F, q_lt_T, q_lt_F, q_eq_T, q_eq_F, true_or, or_true, or_false, false_or, false_and, and_false]
theorem q_tr_ev {j : Nat} {q q' i : Int} {pt p : Int → Int} (i0 : 0 ≤ i) (q0 : 0 ≤ q') (q1 : q' < 201) : q_tr j q pt p (201 * i + q') = if i < j ∧ q' = q then p (201 * i + q') + pt i else p (201 * i + q') := by
  unfold q_tr
  by_cases h : i < j ∧ q' = q
  · rw [if_pos h, if_pos (by omega), show (201 * i + q') / 201 = i by omega]
  · rw [if_neg h, if_neg (by omega)]
/-- the sum over all, one more of them counted -/
theorem q_tr_sum {m j : Nat} {q q' : Int} {pt p g : Int → Int} (hj : j < m) (q0 : 0 ≤ q') (q1 : q' < 201) (sg : Int) : q_sm (fun i => g (201 * i + q') + sg * q_tr (j + 1) q pt p (201 * i + q')) m = q_sm (fun i => g (201 * i + q') + sg * q_tr j q pt p (201 * i + q')) m + (if q' = q then sg * pt j else 0) := by
  by_cases e : q' = q
  · subst e
    rw [if_pos rfl]
    have h : q_sm (fun i => g (201 * i + q') + sg * q_tr (j + 1) q' pt p (201 * i + q')) m = q_sm (q_up (fun i => g (201 * i + q') + sg * q_tr j q' pt p (201 * i + q')) j (g (201 * j + q') + sg * (p (201 * j + q') + pt j))) m := q_sm_congr (fun i hi => by
      unfold q_up
      by_cases ei : (i : Int) = j
      · rw [if_pos ei, ei, q_tr_ev (by omega) q0 q1, if_pos (by omega)]
      · rw [if_neg ei]
        simp only []
        rw [q_tr_ev (by omega) q0 q1, q_tr_ev (by omega) q0 q1]
        by_cases h2 : (i : Int) < j
        · rw [if_pos (by omega), if_pos (by omega)]
        · rw [if_neg (by omega), if_neg (by omega)])
    rw [h, q_sm_up (by omega) (by omega), q_tr_ev (by omega) q0 q1, if_neg (by omega), Int.mul_add]
    omega
  · rw [if_neg e, Int.add_zero]
    exact q_sm_congr (fun i hi => by rw [q_tr_ev (by omega) q0 q1, q_tr_ev (by omega) q0 q1, if_neg (by omega), if_neg (by omega)])
theorem q_tr_sumN {m j : Nat} {q q' : Int} {pt p g : Int → Int} (hj : j < m) (q0 : 0 ≤ q') (q1 : q' < 201) : q_sm (fun i => g (201 * i + q') - q_tr (j + 1) q pt p (201 * i + q')) m = q_sm (fun i => g (201 * i + q') - q_tr j q pt p (201 * i + q')) m - (if q' = q then pt j else 0) := by
  have h := q_tr_sum (m := m) (j := j) (q := q) (q' := q') (pt := pt) (p := p) (g := g) hj q0 q1 (-1)
  have e1 : ∀ k : Nat, q_sm (fun i => g (201 * i + q') + -1 * q_tr k q pt p (201 * i + q')) m = q_sm (fun i => g (201 * i + q') - q_tr k q pt p (201 * i + q')) m := fun k => q_sm_congr (fun i _ => by omega)
  rw [e1, e1] at h
  rw [h]
  split <;> omega
theorem q_tr_sumP {m j : Nat} {q q' : Int} {pt p g : Int → Int} (hj : j < m) (q0 : 0 ≤ q') (q1 : q' < 201) : q_sm (fun i => q_tr (j + 1) q pt g (201 * i + q') - p (201 * i + q')) m = q_sm (fun i => q_tr j q pt g (201 * i + q') - p (201 * i + q')) m + (if q' = q then pt j else 0) := by
  have h := q_tr_sum (m := m) (j := j) (q := q) (q' := q') (pt := pt) (p := g) (g := fun k => -p k) hj q0 q1 1
  have e1 : ∀ k : Nat, q_sm (fun i => -p (201 * i + q') + 1 * q_tr k q pt g (201 * i + q')) m = q_sm (fun i => q_tr k q pt g (201 * i + q') - p (201 * i + q')) m := fun k => q_sm_congr (fun i _ => by omega)
  rw [e1, e1, Int.one_mul] at h
  exact h
section TI
variable {m dl : Nat} {B d sum : Int} {tm ex : Int → Int} {σ : QS} {μ : ZMem}
/-- the register behind one that paid -/
theorem r_rg.pay1 {s pt : Int → Int} {μ μ' : ZMem} {j : Nat} (h : r_rg m ex (q_py j pt s) (zVw plR μ)) (hj : j < m) (h6 : m ≤ 6) (e7 : μ' 7 = μ 7) (e8 : μ' 8 = μ 8) (e12 : μ' 12 = μ 12) (e9 : μ' 9 = q_up (μ 9) j (μ 9 j - pt j)) (e10 : μ' 10 = q_up (μ 10) j (μ 10 j + pt j)) : r_rg m ex (q_py (j + 1) pt s) (zVw plR μ') := by
  have u9 : ∀ i : Int, 0 ≤ i → i < m → μ 9 i = q_py j pt s (5 * i + 1) := fun i i0 i1 => (h.1 i i0 i1).2.1
  have u10 : ∀ i : Int, 0 ≤ i → i < m → μ 10 i = q_py j pt s (5 * i + 2) := fun i i0 i1 => (h.1 i i0 i1).2.2
  have hst := q_py_step j pt s
  have ev : ∀ k, k ≠ 5 * (j : Int) + 1 → k ≠ 5 * (j : Int) + 2 → q_py (j + 1) pt s k = q_py j pt s k := fun k k1 k2 => by rw [← hst, q_up_ne k2, q_up_ne k1]
  have p1 : q_py j pt s (5 * j + 1) = s (5 * j + 1) := q_py_hi (by omega)
  have p2 : q_py j pt s (5 * j + 2) = s (5 * j + 2) := q_py_hi (by omega)
  refine r_rg.mk (fun i i0 i1 => ⟨?_, ?_, ?_⟩) (fun k k0 k1 => ?_) ?_ ?_ (fun i i0 i1 => ?_) ?_
  · rw [e8, ev _ (by omega) (by omega)]
    exact (h.1 i i0 i1).1
  · rw [e9]
    by_cases ei : i = j
    · subst ei
      rw [q_up_at, u9 j i0 i1, p1, q_py_1 (m := j + 1) (by omega) (by omega)]
    · rw [q_up_ne ei, ev _ (by omega) (by omega)]
      exact u9 i i0 i1
  · rw [e10]
    by_cases ei : i = j
    · subst ei
      rw [q_up_at, u10 j i0 i1, p2, q_py_2 (m := j + 1) (by omega) (by omega)]
    · rw [q_up_ne ei, ev _ (by omega) (by omega)]
      exact u10 i i0 i1
  · rw [e12]
    exact h.2.1 k k0 k1
  · rw [e7]
    exact h.2.2.1
  · rw [e7]
    exact h.2.2.2.1
  · rw [e7, ev _ (by omega) (by omega)]
    exact h.2.2.2.2.1 i i0 i1
  · rw [e7]
    refine Eq.trans h.2.2.2.2.2 (q_sm_congr (fun i hi => (ev _ (by omega) (by omega)).symm))
theorem t_takeIn (h : s_T m dl tm ex σ μ) (hw : ∀ i : Nat, i < m → μ 13 i = q_wp ex σ.1 d i) (hi : q_inv m dl B σ.1) (h6 : m ≤ 6) (hs0 : 0 ≤ sum) (hs1 : sum ≤ 60000) : ∃ μ', F_State_takeIn sum μ = some (.inr none, μ') ∧ s_T m dl tm ex (q_pay m ex d sum σ) μ' ∧ μ' 0 = μ 0 ∧ (∀ c, 19 ≤ c → μ' c = μ c) := by
  obtain ⟨⟨hb, hr⟩, h2, hg, hn, hN, hF⟩ := h
  have hq := hi.2.2.2.1.2.2.2.2.1
  have e16 : μ 1 6 = σ.1 90 := hb.2.2.2.2.2.2.1
  obtain ⟨ν, r1, f1, g1⟩ := r_split (ν := zVw plR μ) (m := m) (w := q_wp ex σ.1 d) (sum := sum) hr.2.2.1 h6 (fun i hii => ⟨hw i hii, (q_wp_nn hi.1 i hii).1, by have h1 := (q_wp_nn (ex := ex) (d := d) hi.1 i hii).2; have h2 := hi.1 i hii; omega⟩) hs0 (by omega)
  have hpt : ∀ i : Nat, i < m → 0 ≤ q_shr m (q_wp ex σ.1 d) sum i ∧ q_shr m (q_wp ex σ.1 d) sum i ≤ sum := q_shr_bd hs0 (fun i hii => (q_wp_nn hi.1 i hii).1)
  have eq : q_pay m ex d sum σ = (q_py m (q_shr m (q_wp ex σ.1 d) sum) σ.1, q_tr m (σ.1 90) (q_shr m (q_wp ex σ.1 d) sum) σ.2.1, σ.2.2) := rfl
  rw [eq]
  generalize q_shr m (q_wp ex σ.1 d) sum = pt at *
  unfold F_State_takeIn
  rw [r1, zCm_V]
  have fr : ∀ c, c ≠ 14 → c ≠ 15 → zMg plR μ ν c = μ c := fun c c14 c15 => zMg_fr (bad := [7, 8]) (fun j hj => f1 j (fun e => hj (by simp [e])) (fun e => hj (by simp [e]))) (fun hm => by
    have : c = 14 ∨ c = 15 := by simpa [zRho] using hm
    exact this.elim c14 c15)
  have g14 : ∀ i : Nat, i < m → zMg plR μ ν 14 i = pt i := fun i hii => g1 i hii
  generalize zMg plR μ ν = μ1 at *
  obtain ⟨⟨v, ν1⟩, e, j, rfl, hj, hf, r7, r9, r17, r17N⟩ := q_loop (L := fun n (a : Int × ZMem) => L_State_takeIn_10 (fun μ11 => some (.inr none, μ11)) n a.1 a.2) (P := fun k a => ∃ j : Nat, a.1 = j ∧ j + k = m ∧ (∀ c, c ≠ 9 → c ≠ 10 → c ≠ 17 → a.2 c = μ1 c) ∧ r_rg m ex (q_py j pt σ.1) (zVw plR a.2) ∧ True ∧ (∀ i q : Int, 0 ≤ i → i < m → 0 ≤ q → q < 201 → a.2 17 (i * 201 + q) = σ.2.2.1 (201 * i + q) - q_tr j (σ.1 90) pt σ.2.1 (201 * i + q)) ∧ (∀ q : Int, 0 ≤ q → q < 201 → a.2 17 (1206 + q) = q_sm (fun i => σ.2.2.1 (201 * i + q) - q_tr j (σ.1 90) pt σ.2.1 (201 * i + q)) m)) (fun n k a hh => by
      obtain ⟨v, ν1⟩ := a
      obtain ⟨j, rfl, hj, hf, r7, -, r17, r17N⟩ := hh
      simp only [] at hf r7 r17 r17N ⊢
      have e78 : ν1 7 8 = m := by rw [hf 7 (by decide) (by decide) (by decide), fr 7 (by decide) (by decide)]; exact hr.2.2.1
      have e02 : ν1 0 2 = 1 := by rw [hf 0 (by decide) (by decide) (by decide), fr 0 (by decide) (by decide)]; exact h2
      have e16' : ν1 1 6 = σ.1 90 := by rw [hf 1 (by decide) (by decide) (by decide), fr 1 (by decide) (by decide)]; exact e16
      have e14 : ν1 14 j = pt j := by rw [hf 14 (by decide) (by decide) (by decide)]; exact g14 j (by omega)
      have hb := hpt j (by omega)
      refine ⟨(j + 1, zMg [16, 17, 18] (zUp (zUp ν1 9 j (ν1 9 j - pt j)) 10 j (ν1 10 j + pt j)) (zUp (zUp (zVw [16, 17, 18] (zUp (zUp ν1 9 j (ν1 9 j - pt j)) 10 j (ν1 10 j + pt j))) 1 (j * 201 + σ.1 90) (ν1 17 (j * 201 + σ.1 90) + -pt j)) 1 (1206 + σ.1 90) (ν1 17 (1206 + σ.1 90) + -pt j))), ?_, j + 1, rfl, by omega, ?_, ?_, trivial, ?_, ?_⟩
      · have e17 : ∀ k, zVw [16, 17, 18] (zUp (zUp ν1 9 j (ν1 9 j - pt j)) 10 j (ν1 10 j + pt j)) 1 k = ν1 17 k := fun k => rfl
        simp (disch := omega) only [L_State_takeIn_10, J_State_takeIn_87, Int.add_zero, Int.mul_zero, Int.reduceMul, Int.reduceAdd, Int.mul_one, Int.tdiv_eq_ediv_of_nonneg, Int.tmod_eq_emod_of_nonneg, ↓reduceIte, ↓zLet_eq, ↓zRd_ok, ↓zWr_ok, ↓zC_V, ↓zC_I, ↓zC_J, zUp_at, zUp_ne, q_up_at, q_up_ne, w32_of, w64_of, q_le_T, q_le_F, q_lt_T, q_lt_F, q_eq_T, q_eq_F, true_or, or_true, or_false, false_or, false_and, and_false, e14, e02, e16', f_Trace_add, ↓zCm_V, e17]
      · intro c c9 c10 c17
        simp only []
        by_cases cin : c = 16 ∨ c = 18
        · rcases cin with rfl | rfl
          · exact hf 16 c9 c10 c17
          · exact hf 18 c9 c10 c17
        · rw [zMg_out (by simp; omega), zUp_ne c10, zUp_ne c9, hf c c9 c10 c17]
      · simp only []
        refine r7.pay1 (by omega) h6 rfl rfl rfl ?_ ?_
        · exact (zMg_out (by decide)).trans ((zUp_ne (by decide)).trans (zUp_at _ _ _ _))
        · refine (zMg_out (by decide)).trans ((zUp_at _ _ _ _).trans ?_)
          rw [zUp_ne (by decide)]
      · intro i q i0 i1 q0 q1
        simp only []
        rw [zMg_in (j := 1) rfl]
        simp (disch := omega) only [zUp_at]
        rw [q_up_ne (by omega)]
        by_cases ek : i = j ∧ q = σ.1 90
        · obtain ⟨ei, eq⟩ := ek
          rw [ei, eq, q_up_at, r17 j _ (by omega) (by omega) (by omega) (by omega), q_tr_ev (by omega) (by omega) (by omega), q_tr_ev (by omega) (by omega) (by omega), if_neg (by omega), if_pos (by omega)]
          omega
        · rw [q_up_ne (by omega)]
          refine (r17 i q i0 i1 q0 q1).trans ?_
          rw [q_tr_ev i0 q0 q1, q_tr_ev i0 q0 q1]
          by_cases h3 : i < j ∧ q = σ.1 90
          · rw [if_pos h3, if_pos (by omega)]
          · rw [if_neg h3, if_neg (by omega)]
      · intro q q0 q1
        simp only []
        rw [zMg_in (j := 1) rfl, q_tr_sumN (by omega) q0 q1]
        simp (disch := omega) only [zUp_at]
        by_cases eq : q = σ.1 90
        · rw [if_pos eq, eq, q_up_at, r17N _ (by omega) (by omega)]
          omega
        · rw [if_neg eq, q_up_ne (by omega), q_up_ne (by omega)]
          exact (r17N q q0 q1).trans (by omega)) m zN (0, μ1) ⟨0, rfl, by omega, fun _ _ _ _ => rfl, by
        simp only []
        rw [q_py_zero]
        exact hr.cong (fr 7 (by decide) (by decide)) (fr 8 (by decide) (by decide)) (fr 9 (by decide) (by decide)) (fr 10 (by decide) (by decide)) (fr 12 (by decide) (by decide)), trivial, fun i q i0 i1 q0 q1 => by simp only []; rw [q_tr_zero, fr 17 (by decide) (by decide)]; exact hn i q i0 i1 q0 q1, fun q q0 q1 => by simp only []; rw [q_tr_zero, fr 17 (by decide) (by decide)]; exact hN q q0 q1⟩ (Nat.le_of_lt (zN_gt (by omega)))
  simp only [] at e hf r7 r17 r17N
  obtain rfl : j = m := by omega
  have fr2 : ∀ c, c ≠ 9 → c ≠ 10 → c ≠ 17 → c ≠ 14 → c ≠ 15 → ν1 c = μ c := fun c c9 c10 c17 c14 c15 => by rw [hf c c9 c10 c17, fr c c14 c15]
  refine ⟨ν1, ?_, ⟨⟨?_, r7⟩, ?_, fun i i0 i1 => ?_, r17, r17N, fun q q0 q1 => ?_⟩, fr2 0 (by decide) (by decide) (by decide) (by decide) (by decide), fun c hc => fr2 c (by omega) (by omega) (by omega) (by omega) (by omega)⟩
  · rw [e]
    obtain ⟨n, hn⟩ : ∃ n, zN - j = n + 1 := ⟨zN - j - 1, by have := zN_gt (m := j) (by omega); omega⟩
    rw [hn]
    have e78 : ν1 7 8 = j := r7.2.2.1
    simp (disch := omega) only [L_State_takeIn_10, Int.add_zero, Int.mul_zero, Int.reduceMul, Int.reduceAdd, Int.mul_one, Int.tdiv_eq_ediv_of_nonneg, Int.tmod_eq_emod_of_nonneg, ↓reduceIte, ↓zLet_eq, ↓zRd_ok, ↓zWr_ok, ↓zC_V, ↓zC_I, ↓zC_J, zUp_at, zUp_ne, q_up_at, q_up_ne, w32_of, w64_of, q_le_T, q_le_F, q_lt_T, q_lt_F, q_eq_T, q_eq_F, true_or, or_true, or_false, false_or, false_and, and_false]
  · exact (hb.cong (fr2 1 (by decide) (by decide) (by decide) (by decide) (by decide)) (fr2 2 (by decide) (by decide) (by decide) (by decide) (by decide)) (fr2 3 (by decide) (by decide) (by decide) (by decide) (by decide)) (fr2 4 (by decide) (by decide) (by decide) (by decide) (by decide)) (fr2 5 (by decide) (by decide) (by decide) (by decide) (by decide))).congr (fun k _ _ => q_py_hi (by omega))
  · rw [fr2 0 (by decide) (by decide) (by decide) (by decide) (by decide)]; exact h2
  · rw [fr2 11 (by decide) (by decide) (by decide) (by decide) (by decide)]
    simp only []
    rw [q_py_3]
    exact hg i i0 i1
  · rw [fr2 18 (by decide) (by decide) (by decide) (by decide) (by decide)]; exact hF q q0 q1
end TI
