/-! ===== order: the search in numbers; the class ===== -/
abbrev OA : Type := Int × (Int → Int)
def o_lf (p : Int → Int) (v : Int) (A : OA) : OA := if A.1 < v then (v, p) else A
def o_fd (f : Nat → OA → OA) : Nat → OA → OA
  | 0, A => A
  | n + 1, A => f n (o_fd f n A)
def o_tr (tm : Int → Int) (dl : Nat) : Nat → Int → (Int → Int) → (Int → Int) → OA → OA
  | 0, _, s, p, A => o_lf p (s 86) A
  | r + 1, j, s, p, A => o_fd (fun d A => if s (30 + 4 * (d : Int) + 3) = 0 then o_tr tm dl r (j + 1) (q_sb tm d (s (30 + 4 * (d : Int) + 2)) 1 s) (q_up p j d) A else A) dl A
def o_H (L : Nat) (j : Int) (p : Int → Int) (A : OA) (μ : ZMem) : Prop := μ 0 3 = L ∧ (∀ i, 0 ≤ i → i < j → μ 44 i = p i) ∧ μ 0 4 = A.1 ∧ (∀ i : Int, 0 ≤ i → i < L → μ 45 i = A.2 i) ∧ -1 ≤ A.1 ∧ A.1 ≤ 1000000000
def o_fr (n : Nat) (j : Int) (μ μ' : ZMem) : Prop := (∀ c, (1 ≤ c ∧ c < n) ∨ 46 ≤ c → μ' c = μ c) ∧ μ' 0 3 = μ 0 3 ∧ (∀ i, i < j → μ' 44 i = μ 44 i)
theorem o_fr.rf (n : Nat) (j : Int) (μ : ZMem) : o_fr n j μ μ := ⟨fun _ _ => rfl, rfl, fun _ _ => rfl⟩
theorem o_fr.tr {n : Nat} {j : Int} {a b c : ZMem} (h1 : o_fr n j a b) (h2 : o_fr n j b c) : o_fr n j a c := ⟨fun x hx => (h2.1 x hx).trans (h1.1 x hx), h2.2.1.trans h1.2.1, fun i hi => (h2.2.2 i hi).trans (h1.2.2 i hi)⟩
theorem zMg_6 {pl : List Nat} {κ ν : ZMem} {c : Nat} (h : ∀ j, 6 ≤ j → ν j = zVw pl κ j) (hc : c ∉ [zRho pl 0, zRho pl 1, zRho pl 2, zRho pl 3, zRho pl 4, zRho pl 5]) : zMg pl κ ν c = κ c :=
  zMg_fr (bad := [0, 1, 2, 3, 4, 5]) (fun j hj => h j (by simp only [List.mem_cons, List.not_mem_nil, or_false, not_or] at hj; omega)) hc
theorem o_leaf_6 {dl L : Nat} {tm s p : Int → Int} {A : OA} {μ : ZMem} {j : Int} (hj : j = 6) (hb : b_bk dl tm s (zVw [38, 39, 40, 41, 42, 43] μ)) (v0 : 0 ≤ s 86) (v1 : s 86 ≤ 1000000000) (hL : (L : Int) = j) (h : o_H L j p A μ) : ∃ μ', J_Orders_tryFrom_6_21 μ = some (.inr none, μ') ∧ o_fr 44 j μ μ' ∧ o_H L j p (o_lf p (s 86) A) μ' := by
  subst hj
  have e : μ 42 0 = s 86 := hb.2.2.2.2.1 0 (by decide) (by decide)
  obtain ⟨h3, h44, h4, h45, b0, b1⟩ := h
  unfold J_Orders_tryFrom_6_21 o_lf
  by_cases g : A.1 < s 86
  · refine ⟨zCopy (zUp μ 0 4 (s 86)) 44 45 6, ?_, ⟨fun c hc => ?_, ?_, fun i hi => ?_⟩, ?_⟩
    · simp (disch := omega) only [Int.add_zero, Int.mul_zero, Int.reduceMul, Int.reduceAdd, Int.mul_one, Int.tdiv_eq_ediv_of_nonneg, Int.tmod_eq_emod_of_nonneg, ↓reduceIte, ↓zLet_eq, ↓zRd_ok, ↓zWr_ok, ↓zC_V, ↓zC_I, ↓zC_J, zUp_at, zUp_ne, q_up_at, q_up_ne, w32_of, w64_of, q_le_T, q_le_F, q_lt_T, q_lt_F, q_eq_T, q_eq_F, true_or, or_true, or_false, false_or, false_and, and_false, e, h4]
    · rw [zCopy_ne (by omega), zUp_ne (by omega)]
    · rw [zCopy_ne (by decide), zUp_at, q_up_ne (by decide)]
    · rw [zCopy_ne (by decide), zUp_ne (by decide)]
    · rw [if_pos g]
      refine ⟨?_, fun i i0 i1 => ?_, ?_, fun i i0 i1 => ?_, by show -1 ≤ s 86; omega, v1⟩
      · rw [zCopy_ne (by decide), zUp_at, q_up_ne (by decide)]; exact h3
      · rw [zCopy_ne (by decide), zUp_ne (by decide)]; exact h44 i i0 i1
      · rw [zCopy_ne (by decide), zUp_at, q_up_at]
      · rw [zCopy_at i0 (by omega), zUp_ne (by decide)]; exact h44 i i0 (by omega)
  · refine ⟨μ, ?_, o_fr.rf _ _ _, ?_⟩
    · simp (disch := omega) only [Int.add_zero, Int.mul_zero, Int.reduceMul, Int.reduceAdd, Int.mul_one, Int.tdiv_eq_ediv_of_nonneg, Int.tmod_eq_emod_of_nonneg, ↓reduceIte, ↓zLet_eq, ↓zRd_ok, ↓zWr_ok, ↓zC_V, ↓zC_I, ↓zC_J, zUp_at, zUp_ne, q_up_at, q_up_ne, w32_of, w64_of, q_le_T, q_le_F, q_lt_T, q_lt_F, q_eq_T, q_eq_F, true_or, or_true, or_false, false_or, false_and, and_false, e, h4]
    · rw [if_neg g]
      exact ⟨h3, h44, h4, h45, b0, b1⟩
theorem o_try_6 {m dl L r : Nat} {B : Int} {tm s p : Int → Int} {A : OA} {μ : ZMem} {j : Int} (hj : j = 6) (hb : b_bk dl tm s (zVw [38, 39, 40, 41, 42, 43] μ)) (hi : q_inv m dl B s) (h6 : m ≤ 6) (hdl : dl ≤ 6) (ht : q_tm tm) (hB0 : 0 ≤ B) (hB1 : B + 6 * (6 - j) ≤ 800) (hL : (L : Int) = j + r) (hL6 : L ≤ 6) (h : o_H L j p A μ) : ∃ μ', F_Orders_tryFrom_6 μ = some (.inr none, μ') ∧ o_fr 44 j μ μ' ∧ o_H L j p (o_tr tm dl r j s p A) μ' := by
  have hP := hi.2.2.2.1
  have v86 : s 86 ≤ 100000 * B := hP.1.2
  have v91 : 0 ≤ s 91 ∧ s 91 ≤ 1 := hP.2.2.2.2.2
  have e3 : μ 0 3 = L := h.1
  obtain rfl : r = 0 := by omega
  obtain ⟨μ', r1, f1, h1⟩ := o_leaf_6 hj hb hP.1.1 (by omega) (by omega) h
  refine ⟨μ', ?_, f1, h1⟩
  unfold F_Orders_tryFrom_6
  split
  · exact r1
  · exact r1
theorem o_leaf_5 {dl L : Nat} {tm s p : Int → Int} {A : OA} {μ : ZMem} {j : Int} (hj : j = 5) (hb : b_bk dl tm s (zVw [32, 33, 34, 35, 36, 37] μ)) (v0 : 0 ≤ s 86) (v1 : s 86 ≤ 1000000000) (hL : (L : Int) = j) (h : o_H L j p A μ) : ∃ μ', J_Orders_tryFrom_5_21 μ = some (.inr none, μ') ∧ o_fr 38 j μ μ' ∧ o_H L j p (o_lf p (s 86) A) μ' := by
  subst hj
  have e : μ 36 0 = s 86 := hb.2.2.2.2.1 0 (by decide) (by decide)
  obtain ⟨h3, h44, h4, h45, b0, b1⟩ := h
  unfold J_Orders_tryFrom_5_21 o_lf
  by_cases g : A.1 < s 86
  · refine ⟨zCopy (zUp μ 0 4 (s 86)) 44 45 6, ?_, ⟨fun c hc => ?_, ?_, fun i hi => ?_⟩, ?_⟩
    · simp (disch := omega) only [Int.add_zero, Int.mul_zero, Int.reduceMul, Int.reduceAdd, Int.mul_one, Int.tdiv_eq_ediv_of_nonneg, Int.tmod_eq_emod_of_nonneg, ↓reduceIte, ↓zLet_eq, ↓zRd_ok, ↓zWr_ok, ↓zC_V, ↓zC_I, ↓zC_J, zUp_at, zUp_ne, q_up_at, q_up_ne, w32_of, w64_of, q_le_T, q_le_F, q_lt_T, q_lt_F, q_eq_T, q_eq_F, true_or, or_true, or_false, false_or, false_and, and_false, e, h4]
    · rw [zCopy_ne (by omega), zUp_ne (by omega)]
    · rw [zCopy_ne (by decide), zUp_at, q_up_ne (by decide)]
    · rw [zCopy_ne (by decide), zUp_ne (by decide)]
    · rw [if_pos g]
      refine ⟨?_, fun i i0 i1 => ?_, ?_, fun i i0 i1 => ?_, by show -1 ≤ s 86; omega, v1⟩
      · rw [zCopy_ne (by decide), zUp_at, q_up_ne (by decide)]; exact h3
      · rw [zCopy_ne (by decide), zUp_ne (by decide)]; exact h44 i i0 i1
      · rw [zCopy_ne (by decide), zUp_at, q_up_at]
      · rw [zCopy_at i0 (by omega), zUp_ne (by decide)]; exact h44 i i0 (by omega)
  · refine ⟨μ, ?_, o_fr.rf _ _ _, ?_⟩
    · simp (disch := omega) only [Int.add_zero, Int.mul_zero, Int.reduceMul, Int.reduceAdd, Int.mul_one, Int.tdiv_eq_ediv_of_nonneg, Int.tmod_eq_emod_of_nonneg, ↓reduceIte, ↓zLet_eq, ↓zRd_ok, ↓zWr_ok, ↓zC_V, ↓zC_I, ↓zC_J, zUp_at, zUp_ne, q_up_at, q_up_ne, w32_of, w64_of, q_le_T, q_le_F, q_lt_T, q_lt_F, q_eq_T, q_eq_F, true_or, or_true, or_false, false_or, false_and, and_false, e, h4]
    · rw [if_neg g]
      exact ⟨h3, h44, h4, h45, b0, b1⟩
theorem o_try_5 {m dl L r : Nat} {B : Int} {tm s p : Int → Int} {A : OA} {μ : ZMem} {j : Int} (hj : j = 5) (hb : b_bk dl tm s (zVw [32, 33, 34, 35, 36, 37] μ)) (hi : q_inv m dl B s) (h6 : m ≤ 6) (hdl : dl ≤ 6) (ht : q_tm tm) (hB0 : 0 ≤ B) (hB1 : B + 6 * (6 - j) ≤ 800) (hL : (L : Int) = j + r) (hL6 : L ≤ 6) (h : o_H L j p A μ) : ∃ μ', F_Orders_tryFrom_5 μ = some (.inr none, μ') ∧ o_fr 38 j μ μ' ∧ o_H L j p (o_tr tm dl r j s p A) μ' := by
  have hP := hi.2.2.2.1
  have v86 : s 86 ≤ 100000 * B := hP.1.2
  have v91 : 0 ≤ s 91 ∧ s 91 ≤ 1 := hP.2.2.2.2.2
  have e3 : μ 0 3 = L := h.1
  cases r with
  | zero =>
    obtain ⟨μ', r1, f1, h1⟩ := o_leaf_5 hj hb hP.1.1 (by omega) (by omega) h
    refine ⟨μ', ?_, f1, h1⟩
    unfold F_Orders_tryFrom_5
    rw [e3, w32_of (by omega) (by omega), w32_of (by omega) (by omega), if_pos (by omega)]
    exact r1
  | succ r =>
    subst hj
    generalize hA : (fun (d : Nat) (A : OA) => if s (30 + 4 * (d : Int) + 3) = 0 then o_tr tm dl r (5 + 1) (q_sb tm d (s (30 + 4 * (d : Int) + 2)) 1 s) (q_up p 5 d) A else A) = f
    obtain ⟨⟨v, κ⟩, e, i, hv, hii, fr, hh⟩ := q_loop (L := fun n (b : Int × ZMem) => L_Orders_tryFrom_5_73 (fun μ16 => some (.inr none, μ16)) n b.1 b.2) (P := fun k b => ∃ i : Nat, b.1 = i ∧ i + k = dl ∧ o_fr 38 5 μ b.2 ∧ o_H L 5 p (o_fd f i A) b.2) (fun n k b hb2 => by
        obtain ⟨v, κ⟩ := b
        obtain ⟨i, rfl, hii, fr, hh⟩ := hb2
        simp only [] at fr hh ⊢
        have hb' : b_bk dl tm s (zVw [32, 33, 34, 35, 36, 37] κ) := hb.cong (fr.1 32 (by decide)) (fr.1 33 (by decide)) (fr.1 34 (by decide)) (fr.1 35 (by decide)) (fr.1 36 (by decide))
        have e5 : κ 32 5 = dl := hb'.2.2.2.2.2.1
        have hD := hi.2.1 i (by omega)
        have eo := b_isOpen (d := i) hb' (by omega) (by omega) hD.2.2.2.1 hD.2.2.2.2
        have ef : o_fd f (i + 1) A = f i (o_fd f i A) := rfl
        by_cases hc : s (30 + 4 * i + 3) = 0
        · rw [if_pos hc] at eo
          obtain ⟨ν1, r1, b1, f1⟩ := b_copyFrom (μ := zVw [38, 39, 40, 41, 42, 43, 32, 33, 34, 35, 36, 37] κ) (hb'.cong rfl rfl rfl rfl rfl) (by omega)
          have o1 : ∀ c, c < 38 ∨ 44 ≤ c → zMg [38, 39, 40, 41, 42, 43, 32, 33, 34, 35, 36, 37] κ ν1 c = κ c := fun c hc => zMg_6 f1 (by
            show c ∉ [38, 39, 40, 41, 42, 43]
            simp only [List.mem_cons, List.not_mem_nil, or_false]
            omega)
          have b1' : b_bk dl tm s (zVw [38, 39, 40, 41, 42, 43] (zMg [38, 39, 40, 41, 42, 43, 32, 33, 34, 35, 36, 37] κ ν1)) := b1.cong (zMg_in (pl := [38, 39, 40, 41, 42, 43, 32, 33, 34, 35, 36, 37]) (c := 38) (by decide)) (zMg_in (pl := [38, 39, 40, 41, 42, 43, 32, 33, 34, 35, 36, 37]) (c := 39) (by decide)) (zMg_in (pl := [38, 39, 40, 41, 42, 43, 32, 33, 34, 35, 36, 37]) (c := 40) (by decide)) (zMg_in (pl := [38, 39, 40, 41, 42, 43, 32, 33, 34, 35, 36, 37]) (c := 41) (by decide)) (zMg_in (pl := [38, 39, 40, 41, 42, 43, 32, 33, 34, 35, 36, 37]) (c := 42) (by decide))
          generalize hκ1 : zMg [38, 39, 40, 41, 42, 43, 32, 33, 34, 35, 36, 37] κ ν1 = κ1 at *
          have em : κ1 35 ((i : Int) * 4 + 2) = s (30 + 4 * i + 2) := by
            rw [o1 35 (by decide)]
            exact hb'.de (d := i) (w := 2) (by omega) (by omega) (by decide) (by decide)
          obtain ⟨ν2, r2, b2, -, -⟩ := b_sellDeal (d := i) (sum := s (30 + 4 * i + 2)) (last := 1) b1' hi h6 hdl hB0 (by omega) ht (by omega) (by omega) hD.2.2.1.1 hD.2.2.1.2 (Or.inr rfl)
          have o2 : ∀ c, c < 38 ∨ 44 ≤ c → zMg [38, 39, 40, 41, 42, 43] κ1 ν2 c = κ c := fun c hc => by
            rw [zMg_out (by simp only [List.mem_cons, List.not_mem_nil, or_false]; omega)]
            exact o1 c hc
          have b2' : b_bk dl tm (q_sb tm i (s (30 + 4 * i + 2)) 1 s) (zVw [38, 39, 40, 41, 42, 43] (zMg [38, 39, 40, 41, 42, 43] κ1 ν2)) := b2.cong (zMg_in (pl := [38, 39, 40, 41, 42, 43]) (c := 38) (by decide)) (zMg_in (pl := [38, 39, 40, 41, 42, 43]) (c := 39) (by decide)) (zMg_in (pl := [38, 39, 40, 41, 42, 43]) (c := 40) (by decide)) (zMg_in (pl := [38, 39, 40, 41, 42, 43]) (c := 41) (by decide)) (zMg_in (pl := [38, 39, 40, 41, 42, 43]) (c := 42) (by decide))
          generalize hκ2 : zMg [38, 39, 40, 41, 42, 43] κ1 ν2 = κ2 at *
          have i2 := (hi.sb (last := 1) h6 hdl ht hB0 (by omega) (show (0 : Int) ≤ i by omega) (by omega) hD.2.2.1.1 hD.2.2.1.2).mono h6 (show B + 5 ≤ B + 6 by omega)
          have h3 : o_H L (5 + 1) (q_up p 5 i) (o_fd f i A) (zUp κ2 44 5 i) := by
            obtain ⟨g3, g44, g4, g45, gb⟩ := hh
            refine ⟨?_, fun q q0 q1 => ?_, ?_, fun q q0 q1 => ?_, gb⟩
            · rw [zUp_ne (by decide), o2 0 (by decide)]; exact g3
            · rw [zUp_at]
              by_cases hq : q = 5
              · rw [hq, q_up_at, q_up_at]
              · rw [q_up_ne hq, q_up_ne hq, o2 44 (by decide)]
                exact g44 q q0 (by omega)
            · rw [zUp_ne (by decide), o2 0 (by decide)]; exact g4
            · rw [zUp_ne (by decide), o2 45 (by decide)]; exact g45 q q0 q1
          obtain ⟨κ4, r4, f4, h4⟩ := o_try_6 (r := r) (j := 5 + 1) (by decide) (b2'.cong (ν' := zVw [38, 39, 40, 41, 42, 43] (zUp κ2 44 5 i)) (show zUp κ2 44 5 i 38 = κ2 38 from zUp_ne (by decide)) (show zUp κ2 44 5 i 39 = κ2 39 from zUp_ne (by decide)) (show zUp κ2 44 5 i 40 = κ2 40 from zUp_ne (by decide)) (show zUp κ2 44 5 i 41 = κ2 41 from zUp_ne (by decide)) (show zUp κ2 44 5 i 42 = κ2 42 from zUp_ne (by decide))) i2 h6 hdl ht (by omega) (by omega) (by omega) hL6 h3
          refine ⟨(i + 1, κ4), ?_, i + 1, rfl, by omega, fr.tr ⟨fun c hc => ?_, ?_, fun q hq => ?_⟩, ?_⟩
          · simp (disch := omega) only [L_Orders_tryFrom_5_73, J_Orders_tryFrom_5_129, Int.add_zero, Int.mul_zero, Int.reduceMul, Int.reduceAdd, Int.mul_one, Int.tdiv_eq_ediv_of_nonneg, Int.tmod_eq_emod_of_nonneg, ↓reduceIte, ↓zLet_eq, ↓zRd_ok, ↓zWr_ok, ↓zC_V, ↓zC_I, ↓zC_J, zUp_at, zUp_ne, q_up_at, q_up_ne, w32_of, w64_of, q_le_T, q_le_F, q_lt_T, q_lt_F, q_eq_T, q_eq_F, true_or, or_true, or_false, false_or, false_and, and_false, e5, eo, ↓zCm_I, ↓zCm_V, zMg_vw, r1, hκ1, em, r2, hκ2, r4]
          · show κ4 c = κ c
            rw [f4.1 c (by omega), zUp_ne (by omega), o2 c (by omega)]
          · show κ4 0 3 = κ 0 3
            rw [f4.2.1, zUp_ne (by decide), o2 0 (by decide)]
          · show κ4 44 q = κ 44 q
            rw [f4.2.2 q (by omega), zUp_at, q_up_ne (by omega), o2 44 (by decide)]
          · simp only []
            rw [ef, ← hA]
            simp only []
            rw [if_pos hc, hA]
            obtain ⟨g3, g44, g4, g45, gb⟩ := h4
            exact ⟨g3, fun q q0 q1 => by rw [g44 q q0 (by omega), q_up_ne (by omega)], g4, g45, gb⟩
        · rw [if_neg hc] at eo
          refine ⟨(i + 1, κ), ?_, i + 1, rfl, by omega, fr, ?_⟩
          · simp (disch := omega) only [L_Orders_tryFrom_5_73, J_Orders_tryFrom_5_129, Int.add_zero, Int.mul_zero, Int.reduceMul, Int.reduceAdd, Int.mul_one, Int.tdiv_eq_ediv_of_nonneg, Int.tmod_eq_emod_of_nonneg, ↓reduceIte, ↓zLet_eq, ↓zRd_ok, ↓zWr_ok, ↓zC_V, ↓zC_I, ↓zC_J, zUp_at, zUp_ne, q_up_at, q_up_ne, w32_of, w64_of, q_le_T, q_le_F, q_lt_T, q_lt_F, q_eq_T, q_eq_F, true_or, or_true, or_false, false_or, false_and, and_false, e5, eo, ↓zCm_I, zMg_vw]
          · simp only []
            rw [ef, ← hA]
            simp only []
            rw [if_neg hc, hA]
            exact hh) dl zN (0, μ) ⟨0, rfl, by omega, o_fr.rf _ _ _, h⟩ (Nat.le_of_lt (zN_gt (by omega)))
    simp only [] at e hv fr hh
    obtain rfl : i = dl := by omega
    have eo : o_tr tm i (r + 1) 5 s p A = o_fd f i A := by rw [o_tr, hA]
    refine ⟨κ, ?_, fr, by rw [eo]; exact hh⟩
    have hb' : b_bk i tm s (zVw [32, 33, 34, 35, 36, 37] κ) := hb.cong (fr.1 32 (by decide)) (fr.1 33 (by decide)) (fr.1 34 (by decide)) (fr.1 35 (by decide)) (fr.1 36 (by decide))
    have e5 : κ 32 5 = i := hb'.2.2.2.2.2.1
    unfold F_Orders_tryFrom_5
    rw [e3, w32_of (a := (L : Int)) (by omega) (by omega), w32_of (by omega) (by omega), if_neg (by omega)]
    refine e.trans ?_
    rw [hv]
    obtain ⟨n, hn⟩ : ∃ n, zN - i = n + 1 := ⟨zN - i - 1, by have := zN_gt (m := i) (by omega); omega⟩
    rw [hn]
    simp (disch := omega) only [L_Orders_tryFrom_5_73, Int.add_zero, Int.mul_zero, Int.reduceMul, Int.reduceAdd, Int.mul_one, Int.tdiv_eq_ediv_of_nonneg, Int.tmod_eq_emod_of_nonneg, ↓reduceIte, ↓zLet_eq, ↓zRd_ok, ↓zWr_ok, ↓zC_V, ↓zC_I, ↓zC_J, zUp_at, zUp_ne, q_up_at, q_up_ne, w32_of, w64_of, q_le_T, q_le_F, q_lt_T, q_lt_F, q_eq_T, q_eq_F, true_or, or_true, or_false, false_or, false_and, and_false, e5]
theorem o_leaf_4 {dl L : Nat} {tm s p : Int → Int} {A : OA} {μ : ZMem} {j : Int} (hj : j = 4) (hb : b_bk dl tm s (zVw [26, 27, 28, 29, 30, 31] μ)) (v0 : 0 ≤ s 86) (v1 : s 86 ≤ 1000000000) (hL : (L : Int) = j) (h : o_H L j p A μ) : ∃ μ', J_Orders_tryFrom_4_21 μ = some (.inr none, μ') ∧ o_fr 32 j μ μ' ∧ o_H L j p (o_lf p (s 86) A) μ' := by
  subst hj
  have e : μ 30 0 = s 86 := hb.2.2.2.2.1 0 (by decide) (by decide)
  obtain ⟨h3, h44, h4, h45, b0, b1⟩ := h
  unfold J_Orders_tryFrom_4_21 o_lf
  by_cases g : A.1 < s 86
  · refine ⟨zCopy (zUp μ 0 4 (s 86)) 44 45 6, ?_, ⟨fun c hc => ?_, ?_, fun i hi => ?_⟩, ?_⟩
    · simp (disch := omega) only [Int.add_zero, Int.mul_zero, Int.reduceMul, Int.reduceAdd, Int.mul_one, Int.tdiv_eq_ediv_of_nonneg, Int.tmod_eq_emod_of_nonneg, ↓reduceIte, ↓zLet_eq, ↓zRd_ok, ↓zWr_ok, ↓zC_V, ↓zC_I, ↓zC_J, zUp_at, zUp_ne, q_up_at, q_up_ne, w32_of, w64_of, q_le_T, q_le_F, q_lt_T, q_lt_F, q_eq_T, q_eq_F, true_or, or_true, or_false, false_or, false_and, and_false, e, h4]
    · rw [zCopy_ne (by omega), zUp_ne (by omega)]
    · rw [zCopy_ne (by decide), zUp_at, q_up_ne (by decide)]
    · rw [zCopy_ne (by decide), zUp_ne (by decide)]
    · rw [if_pos g]
      refine ⟨?_, fun i i0 i1 => ?_, ?_, fun i i0 i1 => ?_, by show -1 ≤ s 86; omega, v1⟩
      · rw [zCopy_ne (by decide), zUp_at, q_up_ne (by decide)]; exact h3
      · rw [zCopy_ne (by decide), zUp_ne (by decide)]; exact h44 i i0 i1
      · rw [zCopy_ne (by decide), zUp_at, q_up_at]
      · rw [zCopy_at i0 (by omega), zUp_ne (by decide)]; exact h44 i i0 (by omega)
  · refine ⟨μ, ?_, o_fr.rf _ _ _, ?_⟩
    · simp (disch := omega) only [Int.add_zero, Int.mul_zero, Int.reduceMul, Int.reduceAdd, Int.mul_one, Int.tdiv_eq_ediv_of_nonneg, Int.tmod_eq_emod_of_nonneg, ↓reduceIte, ↓zLet_eq, ↓zRd_ok, ↓zWr_ok, ↓zC_V, ↓zC_I, ↓zC_J, zUp_at, zUp_ne, q_up_at, q_up_ne, w32_of, w64_of, q_le_T, q_le_F, q_lt_T, q_lt_F, q_eq_T, q_eq_F, true_or, or_true, or_false, false_or, false_and, and_false, e, h4]
    · rw [if_neg g]
      exact ⟨h3, h44, h4, h45, b0, b1⟩
theorem o_try_4 {m dl L r : Nat} {B : Int} {tm s p : Int → Int} {A : OA} {μ : ZMem} {j : Int} (hj : j = 4) (hb : b_bk dl tm s (zVw [26, 27, 28, 29, 30, 31] μ)) (hi : q_inv m dl B s) (h6 : m ≤ 6) (hdl : dl ≤ 6) (ht : q_tm tm) (hB0 : 0 ≤ B) (hB1 : B + 6 * (6 - j) ≤ 800) (hL : (L : Int) = j + r) (hL6 : L ≤ 6) (h : o_H L j p A μ) : ∃ μ', F_Orders_tryFrom_4 μ = some (.inr none, μ') ∧ o_fr 32 j μ μ' ∧ o_H L j p (o_tr tm dl r j s p A) μ' := by
  have hP := hi.2.2.2.1
  have v86 : s 86 ≤ 100000 * B := hP.1.2
  have v91 : 0 ≤ s 91 ∧ s 91 ≤ 1 := hP.2.2.2.2.2
  have e3 : μ 0 3 = L := h.1
  cases r with
  | zero =>
    obtain ⟨μ', r1, f1, h1⟩ := o_leaf_4 hj hb hP.1.1 (by omega) (by omega) h
    refine ⟨μ', ?_, f1, h1⟩
    unfold F_Orders_tryFrom_4
    rw [e3, w32_of (by omega) (by omega), w32_of (by omega) (by omega), if_pos (by omega)]
    exact r1
  | succ r =>
    subst hj
    generalize hA : (fun (d : Nat) (A : OA) => if s (30 + 4 * (d : Int) + 3) = 0 then o_tr tm dl r (4 + 1) (q_sb tm d (s (30 + 4 * (d : Int) + 2)) 1 s) (q_up p 4 d) A else A) = f
    obtain ⟨⟨v, κ⟩, e, i, hv, hii, fr, hh⟩ := q_loop (L := fun n (b : Int × ZMem) => L_Orders_tryFrom_4_73 (fun μ16 => some (.inr none, μ16)) n b.1 b.2) (P := fun k b => ∃ i : Nat, b.1 = i ∧ i + k = dl ∧ o_fr 32 4 μ b.2 ∧ o_H L 4 p (o_fd f i A) b.2) (fun n k b hb2 => by
        obtain ⟨v, κ⟩ := b
        obtain ⟨i, rfl, hii, fr, hh⟩ := hb2
        simp only [] at fr hh ⊢
        have hb' : b_bk dl tm s (zVw [26, 27, 28, 29, 30, 31] κ) := hb.cong (fr.1 26 (by decide)) (fr.1 27 (by decide)) (fr.1 28 (by decide)) (fr.1 29 (by decide)) (fr.1 30 (by decide))
        have e5 : κ 26 5 = dl := hb'.2.2.2.2.2.1
        have hD := hi.2.1 i (by omega)
        have eo := b_isOpen (d := i) hb' (by omega) (by omega) hD.2.2.2.1 hD.2.2.2.2
        have ef : o_fd f (i + 1) A = f i (o_fd f i A) := rfl
        by_cases hc : s (30 + 4 * i + 3) = 0
        · rw [if_pos hc] at eo
          obtain ⟨ν1, r1, b1, f1⟩ := b_copyFrom (μ := zVw [32, 33, 34, 35, 36, 37, 26, 27, 28, 29, 30, 31] κ) (hb'.cong rfl rfl rfl rfl rfl) (by omega)
          have o1 : ∀ c, c < 32 ∨ 38 ≤ c → zMg [32, 33, 34, 35, 36, 37, 26, 27, 28, 29, 30, 31] κ ν1 c = κ c := fun c hc => zMg_6 f1 (by
            show c ∉ [32, 33, 34, 35, 36, 37]
            simp only [List.mem_cons, List.not_mem_nil, or_false]
            omega)
          have b1' : b_bk dl tm s (zVw [32, 33, 34, 35, 36, 37] (zMg [32, 33, 34, 35, 36, 37, 26, 27, 28, 29, 30, 31] κ ν1)) := b1.cong (zMg_in (pl := [32, 33, 34, 35, 36, 37, 26, 27, 28, 29, 30, 31]) (c := 32) (by decide)) (zMg_in (pl := [32, 33, 34, 35, 36, 37, 26, 27, 28, 29, 30, 31]) (c := 33) (by decide)) (zMg_in (pl := [32, 33, 34, 35, 36, 37, 26, 27, 28, 29, 30, 31]) (c := 34) (by decide)) (zMg_in (pl := [32, 33, 34, 35, 36, 37, 26, 27, 28, 29, 30, 31]) (c := 35) (by decide)) (zMg_in (pl := [32, 33, 34, 35, 36, 37, 26, 27, 28, 29, 30, 31]) (c := 36) (by decide))
          generalize hκ1 : zMg [32, 33, 34, 35, 36, 37, 26, 27, 28, 29, 30, 31] κ ν1 = κ1 at *
          have em : κ1 29 ((i : Int) * 4 + 2) = s (30 + 4 * i + 2) := by
            rw [o1 29 (by decide)]
            exact hb'.de (d := i) (w := 2) (by omega) (by omega) (by decide) (by decide)
          obtain ⟨ν2, r2, b2, -, -⟩ := b_sellDeal (d := i) (sum := s (30 + 4 * i + 2)) (last := 1) b1' hi h6 hdl hB0 (by omega) ht (by omega) (by omega) hD.2.2.1.1 hD.2.2.1.2 (Or.inr rfl)
          have o2 : ∀ c, c < 32 ∨ 38 ≤ c → zMg [32, 33, 34, 35, 36, 37] κ1 ν2 c = κ c := fun c hc => by
            rw [zMg_out (by simp only [List.mem_cons, List.not_mem_nil, or_false]; omega)]
            exact o1 c hc
          have b2' : b_bk dl tm (q_sb tm i (s (30 + 4 * i + 2)) 1 s) (zVw [32, 33, 34, 35, 36, 37] (zMg [32, 33, 34, 35, 36, 37] κ1 ν2)) := b2.cong (zMg_in (pl := [32, 33, 34, 35, 36, 37]) (c := 32) (by decide)) (zMg_in (pl := [32, 33, 34, 35, 36, 37]) (c := 33) (by decide)) (zMg_in (pl := [32, 33, 34, 35, 36, 37]) (c := 34) (by decide)) (zMg_in (pl := [32, 33, 34, 35, 36, 37]) (c := 35) (by decide)) (zMg_in (pl := [32, 33, 34, 35, 36, 37]) (c := 36) (by decide))
          generalize hκ2 : zMg [32, 33, 34, 35, 36, 37] κ1 ν2 = κ2 at *
          have i2 := (hi.sb (last := 1) h6 hdl ht hB0 (by omega) (show (0 : Int) ≤ i by omega) (by omega) hD.2.2.1.1 hD.2.2.1.2).mono h6 (show B + 5 ≤ B + 6 by omega)
          have h3 : o_H L (4 + 1) (q_up p 4 i) (o_fd f i A) (zUp κ2 44 4 i) := by
            obtain ⟨g3, g44, g4, g45, gb⟩ := hh
            refine ⟨?_, fun q q0 q1 => ?_, ?_, fun q q0 q1 => ?_, gb⟩
            · rw [zUp_ne (by decide), o2 0 (by decide)]; exact g3
            · rw [zUp_at]
              by_cases hq : q = 4
              · rw [hq, q_up_at, q_up_at]
              · rw [q_up_ne hq, q_up_ne hq, o2 44 (by decide)]
                exact g44 q q0 (by omega)
            · rw [zUp_ne (by decide), o2 0 (by decide)]; exact g4
            · rw [zUp_ne (by decide), o2 45 (by decide)]; exact g45 q q0 q1
          obtain ⟨κ4, r4, f4, h4⟩ := o_try_5 (r := r) (j := 4 + 1) (by decide) (b2'.cong (ν' := zVw [32, 33, 34, 35, 36, 37] (zUp κ2 44 4 i)) (show zUp κ2 44 4 i 32 = κ2 32 from zUp_ne (by decide)) (show zUp κ2 44 4 i 33 = κ2 33 from zUp_ne (by decide)) (show zUp κ2 44 4 i 34 = κ2 34 from zUp_ne (by decide)) (show zUp κ2 44 4 i 35 = κ2 35 from zUp_ne (by decide)) (show zUp κ2 44 4 i 36 = κ2 36 from zUp_ne (by decide))) i2 h6 hdl ht (by omega) (by omega) (by omega) hL6 h3
          refine ⟨(i + 1, κ4), ?_, i + 1, rfl, by omega, fr.tr ⟨fun c hc => ?_, ?_, fun q hq => ?_⟩, ?_⟩
          · simp (disch := omega) only [L_Orders_tryFrom_4_73, J_Orders_tryFrom_4_129, Int.add_zero, Int.mul_zero, Int.reduceMul, Int.reduceAdd, Int.mul_one, Int.tdiv_eq_ediv_of_nonneg, Int.tmod_eq_emod_of_nonneg, ↓reduceIte, ↓zLet_eq, ↓zRd_ok, ↓zWr_ok, ↓zC_V, ↓zC_I, ↓zC_J, zUp_at, zUp_ne, q_up_at, q_up_ne, w32_of, w64_of, q_le_T, q_le_F, q_lt_T, q_lt_F, q_eq_T, q_eq_F, true_or, or_true, or_false, false_or, false_and, and_false, e5, eo, ↓zCm_I, ↓zCm_V, zMg_vw, r1, hκ1, em, r2, hκ2, r4]
          · show κ4 c = κ c
            rw [f4.1 c (by omega), zUp_ne (by omega), o2 c (by omega)]
          · show κ4 0 3 = κ 0 3
            rw [f4.2.1, zUp_ne (by decide), o2 0 (by decide)]
          · show κ4 44 q = κ 44 q
            rw [f4.2.2 q (by omega), zUp_at, q_up_ne (by omega), o2 44 (by decide)]
          · simp only []
            rw [ef, ← hA]
            simp only []
            rw [if_pos hc, hA]
            obtain ⟨g3, g44, g4, g45, gb⟩ := h4
            exact ⟨g3, fun q q0 q1 => by rw [g44 q q0 (by omega), q_up_ne (by omega)], g4, g45, gb⟩
        · rw [if_neg hc] at eo
          refine ⟨(i + 1, κ), ?_, i + 1, rfl, by omega, fr, ?_⟩
          · simp (disch := omega) only [L_Orders_tryFrom_4_73, J_Orders_tryFrom_4_129, Int.add_zero, Int.mul_zero, Int.reduceMul, Int.reduceAdd, Int.mul_one, Int.tdiv_eq_ediv_of_nonneg, Int.tmod_eq_emod_of_nonneg, ↓reduceIte, ↓zLet_eq, ↓zRd_ok, ↓zWr_ok, ↓zC_V, ↓zC_I, ↓zC_J, zUp_at, zUp_ne, q_up_at, q_up_ne, w32_of, w64_of, q_le_T, q_le_F, q_lt_T, q_lt_F, q_eq_T, q_eq_F, true_or, or_true, or_false, false_or, false_and, and_false, e5, eo, ↓zCm_I, zMg_vw]
          · simp only []
            rw [ef, ← hA]
            simp only []
            rw [if_neg hc, hA]
            exact hh) dl zN (0, μ) ⟨0, rfl, by omega, o_fr.rf _ _ _, h⟩ (Nat.le_of_lt (zN_gt (by omega)))
    simp only [] at e hv fr hh
    obtain rfl : i = dl := by omega
    have eo : o_tr tm i (r + 1) 4 s p A = o_fd f i A := by rw [o_tr, hA]
    refine ⟨κ, ?_, fr, by rw [eo]; exact hh⟩
    have hb' : b_bk i tm s (zVw [26, 27, 28, 29, 30, 31] κ) := hb.cong (fr.1 26 (by decide)) (fr.1 27 (by decide)) (fr.1 28 (by decide)) (fr.1 29 (by decide)) (fr.1 30 (by decide))
    have e5 : κ 26 5 = i := hb'.2.2.2.2.2.1
    unfold F_Orders_tryFrom_4
    rw [e3, w32_of (a := (L : Int)) (by omega) (by omega), w32_of (by omega) (by omega), if_neg (by omega)]
    refine e.trans ?_
    rw [hv]
    obtain ⟨n, hn⟩ : ∃ n, zN - i = n + 1 := ⟨zN - i - 1, by have := zN_gt (m := i) (by omega); omega⟩
    rw [hn]
    simp (disch := omega) only [L_Orders_tryFrom_4_73, Int.add_zero, Int.mul_zero, Int.reduceMul, Int.reduceAdd, Int.mul_one, Int.tdiv_eq_ediv_of_nonneg, Int.tmod_eq_emod_of_nonneg, ↓reduceIte, ↓zLet_eq, ↓zRd_ok, ↓zWr_ok, ↓zC_V, ↓zC_I, ↓zC_J, zUp_at, zUp_ne, q_up_at, q_up_ne, w32_of, w64_of, q_le_T, q_le_F, q_lt_T, q_lt_F, q_eq_T, q_eq_F, true_or, or_true, or_false, false_or, false_and, and_false, e5]
theorem o_leaf_3 {dl L : Nat} {tm s p : Int → Int} {A : OA} {μ : ZMem} {j : Int} (hj : j = 3) (hb : b_bk dl tm s (zVw [20, 21, 22, 23, 24, 25] μ)) (v0 : 0 ≤ s 86) (v1 : s 86 ≤ 1000000000) (hL : (L : Int) = j) (h : o_H L j p A μ) : ∃ μ', J_Orders_tryFrom_3_21 μ = some (.inr none, μ') ∧ o_fr 26 j μ μ' ∧ o_H L j p (o_lf p (s 86) A) μ' := by
  subst hj
  have e : μ 24 0 = s 86 := hb.2.2.2.2.1 0 (by decide) (by decide)
  obtain ⟨h3, h44, h4, h45, b0, b1⟩ := h
  unfold J_Orders_tryFrom_3_21 o_lf
  by_cases g : A.1 < s 86
  · refine ⟨zCopy (zUp μ 0 4 (s 86)) 44 45 6, ?_, ⟨fun c hc => ?_, ?_, fun i hi => ?_⟩, ?_⟩
    · simp (disch := omega) only [Int.add_zero, Int.mul_zero, Int.reduceMul, Int.reduceAdd, Int.mul_one, Int.tdiv_eq_ediv_of_nonneg, Int.tmod_eq_emod_of_nonneg, ↓reduceIte, ↓zLet_eq, ↓zRd_ok, ↓zWr_ok, ↓zC_V, ↓zC_I, ↓zC_J, zUp_at, zUp_ne, q_up_at, q_up_ne, w32_of, w64_of, q_le_T, q_le_F, q_lt_T, q_lt_F, q_eq_T, q_eq_F, true_or, or_true, or_false, false_or, false_and, and_false, e, h4]
    · rw [zCopy_ne (by omega), zUp_ne (by omega)]
    · rw [zCopy_ne (by decide), zUp_at, q_up_ne (by decide)]
    · rw [zCopy_ne (by decide), zUp_ne (by decide)]
    · rw [if_pos g]
      refine ⟨?_, fun i i0 i1 => ?_, ?_, fun i i0 i1 => ?_, by show -1 ≤ s 86; omega, v1⟩
      · rw [zCopy_ne (by decide), zUp_at, q_up_ne (by decide)]; exact h3
      · rw [zCopy_ne (by decide), zUp_ne (by decide)]; exact h44 i i0 i1
      · rw [zCopy_ne (by decide), zUp_at, q_up_at]
      · rw [zCopy_at i0 (by omega), zUp_ne (by decide)]; exact h44 i i0 (by omega)
  · refine ⟨μ, ?_, o_fr.rf _ _ _, ?_⟩
    · simp (disch := omega) only [Int.add_zero, Int.mul_zero, Int.reduceMul, Int.reduceAdd, Int.mul_one, Int.tdiv_eq_ediv_of_nonneg, Int.tmod_eq_emod_of_nonneg, ↓reduceIte, ↓zLet_eq, ↓zRd_ok, ↓zWr_ok, ↓zC_V, ↓zC_I, ↓zC_J, zUp_at, zUp_ne, q_up_at, q_up_ne, w32_of, w64_of, q_le_T, q_le_F, q_lt_T, q_lt_F, q_eq_T, q_eq_F, true_or, or_true, or_false, false_or, false_and, and_false, e, h4]
    · rw [if_neg g]
      exact ⟨h3, h44, h4, h45, b0, b1⟩
theorem o_try_3 {m dl L r : Nat} {B : Int} {tm s p : Int → Int} {A : OA} {μ : ZMem} {j : Int} (hj : j = 3) (hb : b_bk dl tm s (zVw [20, 21, 22, 23, 24, 25] μ)) (hi : q_inv m dl B s) (h6 : m ≤ 6) (hdl : dl ≤ 6) (ht : q_tm tm) (hB0 : 0 ≤ B) (hB1 : B + 6 * (6 - j) ≤ 800) (hL : (L : Int) = j + r) (hL6 : L ≤ 6) (h : o_H L j p A μ) : ∃ μ', F_Orders_tryFrom_3 μ = some (.inr none, μ') ∧ o_fr 26 j μ μ' ∧ o_H L j p (o_tr tm dl r j s p A) μ' := by
  have hP := hi.2.2.2.1
  have v86 : s 86 ≤ 100000 * B := hP.1.2
  have v91 : 0 ≤ s 91 ∧ s 91 ≤ 1 := hP.2.2.2.2.2
  have e3 : μ 0 3 = L := h.1
  cases r with
  | zero =>
    obtain ⟨μ', r1, f1, h1⟩ := o_leaf_3 hj hb hP.1.1 (by omega) (by omega) h
    refine ⟨μ', ?_, f1, h1⟩
    unfold F_Orders_tryFrom_3
    rw [e3, w32_of (by omega) (by omega), w32_of (by omega) (by omega), if_pos (by omega)]
    exact r1
  | succ r =>
    subst hj
    generalize hA : (fun (d : Nat) (A : OA) => if s (30 + 4 * (d : Int) + 3) = 0 then o_tr tm dl r (3 + 1) (q_sb tm d (s (30 + 4 * (d : Int) + 2)) 1 s) (q_up p 3 d) A else A) = f
    obtain ⟨⟨v, κ⟩, e, i, hv, hii, fr, hh⟩ := q_loop (L := fun n (b : Int × ZMem) => L_Orders_tryFrom_3_73 (fun μ16 => some (.inr none, μ16)) n b.1 b.2) (P := fun k b => ∃ i : Nat, b.1 = i ∧ i + k = dl ∧ o_fr 26 3 μ b.2 ∧ o_H L 3 p (o_fd f i A) b.2) (fun n k b hb2 => by
        obtain ⟨v, κ⟩ := b
        obtain ⟨i, rfl, hii, fr, hh⟩ := hb2
        simp only [] at fr hh ⊢
        have hb' : b_bk dl tm s (zVw [20, 21, 22, 23, 24, 25] κ) := hb.cong (fr.1 20 (by decide)) (fr.1 21 (by decide)) (fr.1 22 (by decide)) (fr.1 23 (by decide)) (fr.1 24 (by decide))
        have e5 : κ 20 5 = dl := hb'.2.2.2.2.2.1
        have hD := hi.2.1 i (by omega)
        have eo := b_isOpen (d := i) hb' (by omega) (by omega) hD.2.2.2.1 hD.2.2.2.2
        have ef : o_fd f (i + 1) A = f i (o_fd f i A) := rfl
        by_cases hc : s (30 + 4 * i + 3) = 0
        · rw [if_pos hc] at eo
          obtain ⟨ν1, r1, b1, f1⟩ := b_copyFrom (μ := zVw [26, 27, 28, 29, 30, 31, 20, 21, 22, 23, 24, 25] κ) (hb'.cong rfl rfl rfl rfl rfl) (by omega)
          have o1 : ∀ c, c < 26 ∨ 32 ≤ c → zMg [26, 27, 28, 29, 30, 31, 20, 21, 22, 23, 24, 25] κ ν1 c = κ c := fun c hc => zMg_6 f1 (by
            show c ∉ [26, 27, 28, 29, 30, 31]
            simp only [List.mem_cons, List.not_mem_nil, or_false]
            omega)
          have b1' : b_bk dl tm s (zVw [26, 27, 28, 29, 30, 31] (zMg [26, 27, 28, 29, 30, 31, 20, 21, 22, 23, 24, 25] κ ν1)) := b1.cong (zMg_in (pl := [26, 27, 28, 29, 30, 31, 20, 21, 22, 23, 24, 25]) (c := 26) (by decide)) (zMg_in (pl := [26, 27, 28, 29, 30, 31, 20, 21, 22, 23, 24, 25]) (c := 27) (by decide)) (zMg_in (pl := [26, 27, 28, 29, 30, 31, 20, 21, 22, 23, 24, 25]) (c := 28) (by decide)) (zMg_in (pl := [26, 27, 28, 29, 30, 31, 20, 21, 22, 23, 24, 25]) (c := 29) (by decide)) (zMg_in (pl := [26, 27, 28, 29, 30, 31, 20, 21, 22, 23, 24, 25]) (c := 30) (by decide))
          generalize hκ1 : zMg [26, 27, 28, 29, 30, 31, 20, 21, 22, 23, 24, 25] κ ν1 = κ1 at *
          have em : κ1 23 ((i : Int) * 4 + 2) = s (30 + 4 * i + 2) := by
            rw [o1 23 (by decide)]
            exact hb'.de (d := i) (w := 2) (by omega) (by omega) (by decide) (by decide)
          obtain ⟨ν2, r2, b2, -, -⟩ := b_sellDeal (d := i) (sum := s (30 + 4 * i + 2)) (last := 1) b1' hi h6 hdl hB0 (by omega) ht (by omega) (by omega) hD.2.2.1.1 hD.2.2.1.2 (Or.inr rfl)
          have o2 : ∀ c, c < 26 ∨ 32 ≤ c → zMg [26, 27, 28, 29, 30, 31] κ1 ν2 c = κ c := fun c hc => by
            rw [zMg_out (by simp only [List.mem_cons, List.not_mem_nil, or_false]; omega)]
            exact o1 c hc
          have b2' : b_bk dl tm (q_sb tm i (s (30 + 4 * i + 2)) 1 s) (zVw [26, 27, 28, 29, 30, 31] (zMg [26, 27, 28, 29, 30, 31] κ1 ν2)) := b2.cong (zMg_in (pl := [26, 27, 28, 29, 30, 31]) (c := 26) (by decide)) (zMg_in (pl := [26, 27, 28, 29, 30, 31]) (c := 27) (by decide)) (zMg_in (pl := [26, 27, 28, 29, 30, 31]) (c := 28) (by decide)) (zMg_in (pl := [26, 27, 28, 29, 30, 31]) (c := 29) (by decide)) (zMg_in (pl := [26, 27, 28, 29, 30, 31]) (c := 30) (by decide))
          generalize hκ2 : zMg [26, 27, 28, 29, 30, 31] κ1 ν2 = κ2 at *
          have i2 := (hi.sb (last := 1) h6 hdl ht hB0 (by omega) (show (0 : Int) ≤ i by omega) (by omega) hD.2.2.1.1 hD.2.2.1.2).mono h6 (show B + 5 ≤ B + 6 by omega)
          have h3 : o_H L (3 + 1) (q_up p 3 i) (o_fd f i A) (zUp κ2 44 3 i) := by
            obtain ⟨g3, g44, g4, g45, gb⟩ := hh
            refine ⟨?_, fun q q0 q1 => ?_, ?_, fun q q0 q1 => ?_, gb⟩
            · rw [zUp_ne (by decide), o2 0 (by decide)]; exact g3
            · rw [zUp_at]
              by_cases hq : q = 3
              · rw [hq, q_up_at, q_up_at]
              · rw [q_up_ne hq, q_up_ne hq, o2 44 (by decide)]
                exact g44 q q0 (by omega)
            · rw [zUp_ne (by decide), o2 0 (by decide)]; exact g4
            · rw [zUp_ne (by decide), o2 45 (by decide)]; exact g45 q q0 q1
          obtain ⟨κ4, r4, f4, h4⟩ := o_try_4 (r := r) (j := 3 + 1) (by decide) (b2'.cong (ν' := zVw [26, 27, 28, 29, 30, 31] (zUp κ2 44 3 i)) (show zUp κ2 44 3 i 26 = κ2 26 from zUp_ne (by decide)) (show zUp κ2 44 3 i 27 = κ2 27 from zUp_ne (by decide)) (show zUp κ2 44 3 i 28 = κ2 28 from zUp_ne (by decide)) (show zUp κ2 44 3 i 29 = κ2 29 from zUp_ne (by decide)) (show zUp κ2 44 3 i 30 = κ2 30 from zUp_ne (by decide))) i2 h6 hdl ht (by omega) (by omega) (by omega) hL6 h3
          refine ⟨(i + 1, κ4), ?_, i + 1, rfl, by omega, fr.tr ⟨fun c hc => ?_, ?_, fun q hq => ?_⟩, ?_⟩
          · simp (disch := omega) only [L_Orders_tryFrom_3_73, J_Orders_tryFrom_3_129, Int.add_zero, Int.mul_zero, Int.reduceMul, Int.reduceAdd, Int.mul_one, Int.tdiv_eq_ediv_of_nonneg, Int.tmod_eq_emod_of_nonneg, ↓reduceIte, ↓zLet_eq, ↓zRd_ok, ↓zWr_ok, ↓zC_V, ↓zC_I, ↓zC_J, zUp_at, zUp_ne, q_up_at, q_up_ne, w32_of, w64_of, q_le_T, q_le_F, q_lt_T, q_lt_F, q_eq_T, q_eq_F, true_or, or_true, or_false, false_or, false_and, and_false, e5, eo, ↓zCm_I, ↓zCm_V, zMg_vw, r1, hκ1, em, r2, hκ2, r4]
          · show κ4 c = κ c
            rw [f4.1 c (by omega), zUp_ne (by omega), o2 c (by omega)]
          · show κ4 0 3 = κ 0 3
            rw [f4.2.1, zUp_ne (by decide), o2 0 (by decide)]
          · show κ4 44 q = κ 44 q
            rw [f4.2.2 q (by omega), zUp_at, q_up_ne (by omega), o2 44 (by decide)]
          · simp only []
            rw [ef, ← hA]
            simp only []
            rw [if_pos hc, hA]
            obtain ⟨g3, g44, g4, g45, gb⟩ := h4
            exact ⟨g3, fun q q0 q1 => by rw [g44 q q0 (by omega), q_up_ne (by omega)], g4, g45, gb⟩
        · rw [if_neg hc] at eo
          refine ⟨(i + 1, κ), ?_, i + 1, rfl, by omega, fr, ?_⟩
          · simp (disch := omega) only [L_Orders_tryFrom_3_73, J_Orders_tryFrom_3_129, Int.add_zero, Int.mul_zero, Int.reduceMul, Int.reduceAdd, Int.mul_one, Int.tdiv_eq_ediv_of_nonneg, Int.tmod_eq_emod_of_nonneg, ↓reduceIte, ↓zLet_eq, ↓zRd_ok, ↓zWr_ok, ↓zC_V, ↓zC_I, ↓zC_J, zUp_at, zUp_ne, q_up_at, q_up_ne, w32_of, w64_of, q_le_T, q_le_F, q_lt_T, q_lt_F, q_eq_T, q_eq_F, true_or, or_true, or_false, false_or, false_and, and_false, e5, eo, ↓zCm_I, zMg_vw]
          · simp only []
            rw [ef, ← hA]
            simp only []
            rw [if_neg hc, hA]
            exact hh) dl zN (0, μ) ⟨0, rfl, by omega, o_fr.rf _ _ _, h⟩ (Nat.le_of_lt (zN_gt (by omega)))
    simp only [] at e hv fr hh
    obtain rfl : i = dl := by omega
    have eo : o_tr tm i (r + 1) 3 s p A = o_fd f i A := by rw [o_tr, hA]
    refine ⟨κ, ?_, fr, by rw [eo]; exact hh⟩
    have hb' : b_bk i tm s (zVw [20, 21, 22, 23, 24, 25] κ) := hb.cong (fr.1 20 (by decide)) (fr.1 21 (by decide)) (fr.1 22 (by decide)) (fr.1 23 (by decide)) (fr.1 24 (by decide))
    have e5 : κ 20 5 = i := hb'.2.2.2.2.2.1
    unfold F_Orders_tryFrom_3
    rw [e3, w32_of (a := (L : Int)) (by omega) (by omega), w32_of (by omega) (by omega), if_neg (by omega)]
    refine e.trans ?_
    rw [hv]
    obtain ⟨n, hn⟩ : ∃ n, zN - i = n + 1 := ⟨zN - i - 1, by have := zN_gt (m := i) (by omega); omega⟩
    rw [hn]
    simp (disch := omega) only [L_Orders_tryFrom_3_73, Int.add_zero, Int.mul_zero, Int.reduceMul, Int.reduceAdd, Int.mul_one, Int.tdiv_eq_ediv_of_nonneg, Int.tmod_eq_emod_of_nonneg, ↓reduceIte, ↓zLet_eq, ↓zRd_ok, ↓zWr_ok, ↓zC_V, ↓zC_I, ↓zC_J, zUp_at, zUp_ne, q_up_at, q_up_ne, w32_of, w64_of, q_le_T, q_le_F, q_lt_T, q_lt_F, q_eq_T, q_eq_F, true_or, or_true, or_false, false_or, false_and, and_false, e5]
theorem o_leaf_2 {dl L : Nat} {tm s p : Int → Int} {A : OA} {μ : ZMem} {j : Int} (hj : j = 2) (hb : b_bk dl tm s (zVw [14, 15, 16, 17, 18, 19] μ)) (v0 : 0 ≤ s 86) (v1 : s 86 ≤ 1000000000) (hL : (L : Int) = j) (h : o_H L j p A μ) : ∃ μ', J_Orders_tryFrom_2_21 μ = some (.inr none, μ') ∧ o_fr 20 j μ μ' ∧ o_H L j p (o_lf p (s 86) A) μ' := by
  subst hj
  have e : μ 18 0 = s 86 := hb.2.2.2.2.1 0 (by decide) (by decide)
  obtain ⟨h3, h44, h4, h45, b0, b1⟩ := h
  unfold J_Orders_tryFrom_2_21 o_lf
  by_cases g : A.1 < s 86
  · refine ⟨zCopy (zUp μ 0 4 (s 86)) 44 45 6, ?_, ⟨fun c hc => ?_, ?_, fun i hi => ?_⟩, ?_⟩
    · simp (disch := omega) only [Int.add_zero, Int.mul_zero, Int.reduceMul, Int.reduceAdd, Int.mul_one, Int.tdiv_eq_ediv_of_nonneg, Int.tmod_eq_emod_of_nonneg, ↓reduceIte, ↓zLet_eq, ↓zRd_ok, ↓zWr_ok, ↓zC_V, ↓zC_I, ↓zC_J, zUp_at, zUp_ne, q_up_at, q_up_ne, w32_of, w64_of, q_le_T, q_le_F, q_lt_T, q_lt_F, q_eq_T, q_eq_F, true_or, or_true, or_false, false_or, false_and, and_false, e, h4]
    · rw [zCopy_ne (by omega), zUp_ne (by omega)]
    · rw [zCopy_ne (by decide), zUp_at, q_up_ne (by decide)]
    · rw [zCopy_ne (by decide), zUp_ne (by decide)]
    · rw [if_pos g]
      refine ⟨?_, fun i i0 i1 => ?_, ?_, fun i i0 i1 => ?_, by show -1 ≤ s 86; omega, v1⟩
      · rw [zCopy_ne (by decide), zUp_at, q_up_ne (by decide)]; exact h3
      · rw [zCopy_ne (by decide), zUp_ne (by decide)]; exact h44 i i0 i1
      · rw [zCopy_ne (by decide), zUp_at, q_up_at]
      · rw [zCopy_at i0 (by omega), zUp_ne (by decide)]; exact h44 i i0 (by omega)
  · refine ⟨μ, ?_, o_fr.rf _ _ _, ?_⟩
    · simp (disch := omega) only [Int.add_zero, Int.mul_zero, Int.reduceMul, Int.reduceAdd, Int.mul_one, Int.tdiv_eq_ediv_of_nonneg, Int.tmod_eq_emod_of_nonneg, ↓reduceIte, ↓zLet_eq, ↓zRd_ok, ↓zWr_ok, ↓zC_V, ↓zC_I, ↓zC_J, zUp_at, zUp_ne, q_up_at, q_up_ne, w32_of, w64_of, q_le_T, q_le_F, q_lt_T, q_lt_F, q_eq_T, q_eq_F, true_or, or_true, or_false, false_or, false_and, and_false, e, h4]
    · rw [if_neg g]
      exact ⟨h3, h44, h4, h45, b0, b1⟩
theorem o_try_2 {m dl L r : Nat} {B : Int} {tm s p : Int → Int} {A : OA} {μ : ZMem} {j : Int} (hj : j = 2) (hb : b_bk dl tm s (zVw [14, 15, 16, 17, 18, 19] μ)) (hi : q_inv m dl B s) (h6 : m ≤ 6) (hdl : dl ≤ 6) (ht : q_tm tm) (hB0 : 0 ≤ B) (hB1 : B + 6 * (6 - j) ≤ 800) (hL : (L : Int) = j + r) (hL6 : L ≤ 6) (h : o_H L j p A μ) : ∃ μ', F_Orders_tryFrom_2 μ = some (.inr none, μ') ∧ o_fr 20 j μ μ' ∧ o_H L j p (o_tr tm dl r j s p A) μ' := by
  have hP := hi.2.2.2.1
  have v86 : s 86 ≤ 100000 * B := hP.1.2
  have v91 : 0 ≤ s 91 ∧ s 91 ≤ 1 := hP.2.2.2.2.2
  have e3 : μ 0 3 = L := h.1
  cases r with
  | zero =>
    obtain ⟨μ', r1, f1, h1⟩ := o_leaf_2 hj hb hP.1.1 (by omega) (by omega) h
    refine ⟨μ', ?_, f1, h1⟩
    unfold F_Orders_tryFrom_2
    rw [e3, w32_of (by omega) (by omega), w32_of (by omega) (by omega), if_pos (by omega)]
    exact r1
  | succ r =>
    subst hj
    generalize hA : (fun (d : Nat) (A : OA) => if s (30 + 4 * (d : Int) + 3) = 0 then o_tr tm dl r (2 + 1) (q_sb tm d (s (30 + 4 * (d : Int) + 2)) 1 s) (q_up p 2 d) A else A) = f
    obtain ⟨⟨v, κ⟩, e, i, hv, hii, fr, hh⟩ := q_loop (L := fun n (b : Int × ZMem) => L_Orders_tryFrom_2_73 (fun μ16 => some (.inr none, μ16)) n b.1 b.2) (P := fun k b => ∃ i : Nat, b.1 = i ∧ i + k = dl ∧ o_fr 20 2 μ b.2 ∧ o_H L 2 p (o_fd f i A) b.2) (fun n k b hb2 => by
        obtain ⟨v, κ⟩ := b
        obtain ⟨i, rfl, hii, fr, hh⟩ := hb2
        simp only [] at fr hh ⊢
        have hb' : b_bk dl tm s (zVw [14, 15, 16, 17, 18, 19] κ) := hb.cong (fr.1 14 (by decide)) (fr.1 15 (by decide)) (fr.1 16 (by decide)) (fr.1 17 (by decide)) (fr.1 18 (by decide))
        have e5 : κ 14 5 = dl := hb'.2.2.2.2.2.1
        have hD := hi.2.1 i (by omega)
        have eo := b_isOpen (d := i) hb' (by omega) (by omega) hD.2.2.2.1 hD.2.2.2.2
        have ef : o_fd f (i + 1) A = f i (o_fd f i A) := rfl
        by_cases hc : s (30 + 4 * i + 3) = 0
        · rw [if_pos hc] at eo
          obtain ⟨ν1, r1, b1, f1⟩ := b_copyFrom (μ := zVw [20, 21, 22, 23, 24, 25, 14, 15, 16, 17, 18, 19] κ) (hb'.cong rfl rfl rfl rfl rfl) (by omega)
          have o1 : ∀ c, c < 20 ∨ 26 ≤ c → zMg [20, 21, 22, 23, 24, 25, 14, 15, 16, 17, 18, 19] κ ν1 c = κ c := fun c hc => zMg_6 f1 (by
            show c ∉ [20, 21, 22, 23, 24, 25]
            simp only [List.mem_cons, List.not_mem_nil, or_false]
            omega)
          have b1' : b_bk dl tm s (zVw [20, 21, 22, 23, 24, 25] (zMg [20, 21, 22, 23, 24, 25, 14, 15, 16, 17, 18, 19] κ ν1)) := b1.cong (zMg_in (pl := [20, 21, 22, 23, 24, 25, 14, 15, 16, 17, 18, 19]) (c := 20) (by decide)) (zMg_in (pl := [20, 21, 22, 23, 24, 25, 14, 15, 16, 17, 18, 19]) (c := 21) (by decide)) (zMg_in (pl := [20, 21, 22, 23, 24, 25, 14, 15, 16, 17, 18, 19]) (c := 22) (by decide)) (zMg_in (pl := [20, 21, 22, 23, 24, 25, 14, 15, 16, 17, 18, 19]) (c := 23) (by decide)) (zMg_in (pl := [20, 21, 22, 23, 24, 25, 14, 15, 16, 17, 18, 19]) (c := 24) (by decide))
          generalize hκ1 : zMg [20, 21, 22, 23, 24, 25, 14, 15, 16, 17, 18, 19] κ ν1 = κ1 at *
          have em : κ1 17 ((i : Int) * 4 + 2) = s (30 + 4 * i + 2) := by
            rw [o1 17 (by decide)]
            exact hb'.de (d := i) (w := 2) (by omega) (by omega) (by decide) (by decide)
          obtain ⟨ν2, r2, b2, -, -⟩ := b_sellDeal (d := i) (sum := s (30 + 4 * i + 2)) (last := 1) b1' hi h6 hdl hB0 (by omega) ht (by omega) (by omega) hD.2.2.1.1 hD.2.2.1.2 (Or.inr rfl)
          have o2 : ∀ c, c < 20 ∨ 26 ≤ c → zMg [20, 21, 22, 23, 24, 25] κ1 ν2 c = κ c := fun c hc => by
            rw [zMg_out (by simp only [List.mem_cons, List.not_mem_nil, or_false]; omega)]
            exact o1 c hc
          have b2' : b_bk dl tm (q_sb tm i (s (30 + 4 * i + 2)) 1 s) (zVw [20, 21, 22, 23, 24, 25] (zMg [20, 21, 22, 23, 24, 25] κ1 ν2)) := b2.cong (zMg_in (pl := [20, 21, 22, 23, 24, 25]) (c := 20) (by decide)) (zMg_in (pl := [20, 21, 22, 23, 24, 25]) (c := 21) (by decide)) (zMg_in (pl := [20, 21, 22, 23, 24, 25]) (c := 22) (by decide)) (zMg_in (pl := [20, 21, 22, 23, 24, 25]) (c := 23) (by decide)) (zMg_in (pl := [20, 21, 22, 23, 24, 25]) (c := 24) (by decide))
          generalize hκ2 : zMg [20, 21, 22, 23, 24, 25] κ1 ν2 = κ2 at *
          have i2 := (hi.sb (last := 1) h6 hdl ht hB0 (by omega) (show (0 : Int) ≤ i by omega) (by omega) hD.2.2.1.1 hD.2.2.1.2).mono h6 (show B + 5 ≤ B + 6 by omega)
          have h3 : o_H L (2 + 1) (q_up p 2 i) (o_fd f i A) (zUp κ2 44 2 i) := by
            obtain ⟨g3, g44, g4, g45, gb⟩ := hh
            refine ⟨?_, fun q q0 q1 => ?_, ?_, fun q q0 q1 => ?_, gb⟩
            · rw [zUp_ne (by decide), o2 0 (by decide)]; exact g3
            · rw [zUp_at]
              by_cases hq : q = 2
              · rw [hq, q_up_at, q_up_at]
              · rw [q_up_ne hq, q_up_ne hq, o2 44 (by decide)]
                exact g44 q q0 (by omega)
            · rw [zUp_ne (by decide), o2 0 (by decide)]; exact g4
            · rw [zUp_ne (by decide), o2 45 (by decide)]; exact g45 q q0 q1
          obtain ⟨κ4, r4, f4, h4⟩ := o_try_3 (r := r) (j := 2 + 1) (by decide) (b2'.cong (ν' := zVw [20, 21, 22, 23, 24, 25] (zUp κ2 44 2 i)) (show zUp κ2 44 2 i 20 = κ2 20 from zUp_ne (by decide)) (show zUp κ2 44 2 i 21 = κ2 21 from zUp_ne (by decide)) (show zUp κ2 44 2 i 22 = κ2 22 from zUp_ne (by decide)) (show zUp κ2 44 2 i 23 = κ2 23 from zUp_ne (by decide)) (show zUp κ2 44 2 i 24 = κ2 24 from zUp_ne (by decide))) i2 h6 hdl ht (by omega) (by omega) (by omega) hL6 h3
          refine ⟨(i + 1, κ4), ?_, i + 1, rfl, by omega, fr.tr ⟨fun c hc => ?_, ?_, fun q hq => ?_⟩, ?_⟩
          · simp (disch := omega) only [L_Orders_tryFrom_2_73, J_Orders_tryFrom_2_129, Int.add_zero, Int.mul_zero, Int.reduceMul, Int.reduceAdd, Int.mul_one, Int.tdiv_eq_ediv_of_nonneg, Int.tmod_eq_emod_of_nonneg, ↓reduceIte, ↓zLet_eq, ↓zRd_ok, ↓zWr_ok, ↓zC_V, ↓zC_I, ↓zC_J, zUp_at, zUp_ne, q_up_at, q_up_ne, w32_of, w64_of, q_le_T, q_le_F, q_lt_T, q_lt_F, q_eq_T, q_eq_F, true_or, or_true, or_false, false_or, false_and, and_false, e5, eo, ↓zCm_I, ↓zCm_V, zMg_vw, r1, hκ1, em, r2, hκ2, r4]
          · show κ4 c = κ c
            rw [f4.1 c (by omega), zUp_ne (by omega), o2 c (by omega)]
          · show κ4 0 3 = κ 0 3
            rw [f4.2.1, zUp_ne (by decide), o2 0 (by decide)]
          · show κ4 44 q = κ 44 q
            rw [f4.2.2 q (by omega), zUp_at, q_up_ne (by omega), o2 44 (by decide)]
          · simp only []
            rw [ef, ← hA]
            simp only []
            rw [if_pos hc, hA]
            obtain ⟨g3, g44, g4, g45, gb⟩ := h4
            exact ⟨g3, fun q q0 q1 => by rw [g44 q q0 (by omega), q_up_ne (by omega)], g4, g45, gb⟩
        · rw [if_neg hc] at eo
          refine ⟨(i + 1, κ), ?_, i + 1, rfl, by omega, fr, ?_⟩
          · simp (disch := omega) only [L_Orders_tryFrom_2_73, J_Orders_tryFrom_2_129, Int.add_zero, Int.mul_zero, Int.reduceMul, Int.reduceAdd, Int.mul_one, Int.tdiv_eq_ediv_of_nonneg, Int.tmod_eq_emod_of_nonneg, ↓reduceIte, ↓zLet_eq, ↓zRd_ok, ↓zWr_ok, ↓zC_V, ↓zC_I, ↓zC_J, zUp_at, zUp_ne, q_up_at, q_up_ne, w32_of, w64_of, q_le_T, q_le_F, q_lt_T, q_lt_F, q_eq_T, q_eq_F, true_or, or_true, or_false, false_or, false_and, and_false, e5, eo, ↓zCm_I, zMg_vw]
          · simp only []
            rw [ef, ← hA]
            simp only []
            rw [if_neg hc, hA]
            exact hh) dl zN (0, μ) ⟨0, rfl, by omega, o_fr.rf _ _ _, h⟩ (Nat.le_of_lt (zN_gt (by omega)))
    simp only [] at e hv fr hh
    obtain rfl : i = dl := by omega
    have eo : o_tr tm i (r + 1) 2 s p A = o_fd f i A := by rw [o_tr, hA]
    refine ⟨κ, ?_, fr, by rw [eo]; exact hh⟩
    have hb' : b_bk i tm s (zVw [14, 15, 16, 17, 18, 19] κ) := hb.cong (fr.1 14 (by decide)) (fr.1 15 (by decide)) (fr.1 16 (by decide)) (fr.1 17 (by decide)) (fr.1 18 (by decide))
    have e5 : κ 14 5 = i := hb'.2.2.2.2.2.1
    unfold F_Orders_tryFrom_2
    rw [e3, w32_of (a := (L : Int)) (by omega) (by omega), w32_of (by omega) (by omega), if_neg (by omega)]
    refine e.trans ?_
    rw [hv]
    obtain ⟨n, hn⟩ : ∃ n, zN - i = n + 1 := ⟨zN - i - 1, by have := zN_gt (m := i) (by omega); omega⟩
    rw [hn]
    simp (disch := omega) only [L_Orders_tryFrom_2_73, Int.add_zero, Int.mul_zero, Int.reduceMul, Int.reduceAdd, Int.mul_one, Int.tdiv_eq_ediv_of_nonneg, Int.tmod_eq_emod_of_nonneg, ↓reduceIte, ↓zLet_eq, ↓zRd_ok, ↓zWr_ok, ↓zC_V, ↓zC_I, ↓zC_J, zUp_at, zUp_ne, q_up_at, q_up_ne, w32_of, w64_of, q_le_T, q_le_F, q_lt_T, q_lt_F, q_eq_T, q_eq_F, true_or, or_true, or_false, false_or, false_and, and_false, e5]
theorem o_leaf_1 {dl L : Nat} {tm s p : Int → Int} {A : OA} {μ : ZMem} {j : Int} (hj : j = 1) (hb : b_bk dl tm s (zVw [8, 9, 10, 11, 12, 13] μ)) (v0 : 0 ≤ s 86) (v1 : s 86 ≤ 1000000000) (hL : (L : Int) = j) (h : o_H L j p A μ) : ∃ μ', J_Orders_tryFrom_1_21 μ = some (.inr none, μ') ∧ o_fr 14 j μ μ' ∧ o_H L j p (o_lf p (s 86) A) μ' := by
  subst hj
  have e : μ 12 0 = s 86 := hb.2.2.2.2.1 0 (by decide) (by decide)
  obtain ⟨h3, h44, h4, h45, b0, b1⟩ := h
  unfold J_Orders_tryFrom_1_21 o_lf
  by_cases g : A.1 < s 86
  · refine ⟨zCopy (zUp μ 0 4 (s 86)) 44 45 6, ?_, ⟨fun c hc => ?_, ?_, fun i hi => ?_⟩, ?_⟩
    · simp (disch := omega) only [Int.add_zero, Int.mul_zero, Int.reduceMul, Int.reduceAdd, Int.mul_one, Int.tdiv_eq_ediv_of_nonneg, Int.tmod_eq_emod_of_nonneg, ↓reduceIte, ↓zLet_eq, ↓zRd_ok, ↓zWr_ok, ↓zC_V, ↓zC_I, ↓zC_J, zUp_at, zUp_ne, q_up_at, q_up_ne, w32_of, w64_of, q_le_T, q_le_F, q_lt_T, q_lt_F, q_eq_T, q_eq_F, true_or, or_true, or_false, false_or, false_and, and_false, e, h4]
    · rw [zCopy_ne (by omega), zUp_ne (by omega)]
    · rw [zCopy_ne (by decide), zUp_at, q_up_ne (by decide)]
    · rw [zCopy_ne (by decide), zUp_ne (by decide)]
    · rw [if_pos g]
      refine ⟨?_, fun i i0 i1 => ?_, ?_, fun i i0 i1 => ?_, by show -1 ≤ s 86; omega, v1⟩
      · rw [zCopy_ne (by decide), zUp_at, q_up_ne (by decide)]; exact h3
      · rw [zCopy_ne (by decide), zUp_ne (by decide)]; exact h44 i i0 i1
      · rw [zCopy_ne (by decide), zUp_at, q_up_at]
      · rw [zCopy_at i0 (by omega), zUp_ne (by decide)]; exact h44 i i0 (by omega)
  · refine ⟨μ, ?_, o_fr.rf _ _ _, ?_⟩
    · simp (disch := omega) only [Int.add_zero, Int.mul_zero, Int.reduceMul, Int.reduceAdd, Int.mul_one, Int.tdiv_eq_ediv_of_nonneg, Int.tmod_eq_emod_of_nonneg, ↓reduceIte, ↓zLet_eq, ↓zRd_ok, ↓zWr_ok, ↓zC_V, ↓zC_I, ↓zC_J, zUp_at, zUp_ne, q_up_at, q_up_ne, w32_of, w64_of, q_le_T, q_le_F, q_lt_T, q_lt_F, q_eq_T, q_eq_F, true_or, or_true, or_false, false_or, false_and, and_false, e, h4]
    · rw [if_neg g]
      exact ⟨h3, h44, h4, h45, b0, b1⟩
theorem o_try_1 {m dl L r : Nat} {B : Int} {tm s p : Int → Int} {A : OA} {μ : ZMem} {j : Int} (hj : j = 1) (hb : b_bk dl tm s (zVw [8, 9, 10, 11, 12, 13] μ)) (hi : q_inv m dl B s) (h6 : m ≤ 6) (hdl : dl ≤ 6) (ht : q_tm tm) (hB0 : 0 ≤ B) (hB1 : B + 6 * (6 - j) ≤ 800) (hL : (L : Int) = j + r) (hL6 : L ≤ 6) (h : o_H L j p A μ) : ∃ μ', F_Orders_tryFrom_1 μ = some (.inr none, μ') ∧ o_fr 14 j μ μ' ∧ o_H L j p (o_tr tm dl r j s p A) μ' := by
  have hP := hi.2.2.2.1
  have v86 : s 86 ≤ 100000 * B := hP.1.2
  have v91 : 0 ≤ s 91 ∧ s 91 ≤ 1 := hP.2.2.2.2.2
  have e3 : μ 0 3 = L := h.1
  cases r with
  | zero =>
    obtain ⟨μ', r1, f1, h1⟩ := o_leaf_1 hj hb hP.1.1 (by omega) (by omega) h
    refine ⟨μ', ?_, f1, h1⟩
    unfold F_Orders_tryFrom_1
    rw [e3, w32_of (by omega) (by omega), w32_of (by omega) (by omega), if_pos (by omega)]
    exact r1
  | succ r =>
    subst hj
    generalize hA : (fun (d : Nat) (A : OA) => if s (30 + 4 * (d : Int) + 3) = 0 then o_tr tm dl r (1 + 1) (q_sb tm d (s (30 + 4 * (d : Int) + 2)) 1 s) (q_up p 1 d) A else A) = f
    obtain ⟨⟨v, κ⟩, e, i, hv, hii, fr, hh⟩ := q_loop (L := fun n (b : Int × ZMem) => L_Orders_tryFrom_1_73 (fun μ16 => some (.inr none, μ16)) n b.1 b.2) (P := fun k b => ∃ i : Nat, b.1 = i ∧ i + k = dl ∧ o_fr 14 1 μ b.2 ∧ o_H L 1 p (o_fd f i A) b.2) (fun n k b hb2 => by
        obtain ⟨v, κ⟩ := b
        obtain ⟨i, rfl, hii, fr, hh⟩ := hb2
        simp only [] at fr hh ⊢
        have hb' : b_bk dl tm s (zVw [8, 9, 10, 11, 12, 13] κ) := hb.cong (fr.1 8 (by decide)) (fr.1 9 (by decide)) (fr.1 10 (by decide)) (fr.1 11 (by decide)) (fr.1 12 (by decide))
        have e5 : κ 8 5 = dl := hb'.2.2.2.2.2.1
        have hD := hi.2.1 i (by omega)
        have eo := b_isOpen (d := i) hb' (by omega) (by omega) hD.2.2.2.1 hD.2.2.2.2
        have ef : o_fd f (i + 1) A = f i (o_fd f i A) := rfl
        by_cases hc : s (30 + 4 * i + 3) = 0
        · rw [if_pos hc] at eo
          obtain ⟨ν1, r1, b1, f1⟩ := b_copyFrom (μ := zVw [14, 15, 16, 17, 18, 19, 8, 9, 10, 11, 12, 13] κ) (hb'.cong rfl rfl rfl rfl rfl) (by omega)
          have o1 : ∀ c, c < 14 ∨ 20 ≤ c → zMg [14, 15, 16, 17, 18, 19, 8, 9, 10, 11, 12, 13] κ ν1 c = κ c := fun c hc => zMg_6 f1 (by
            show c ∉ [14, 15, 16, 17, 18, 19]
            simp only [List.mem_cons, List.not_mem_nil, or_false]
            omega)
          have b1' : b_bk dl tm s (zVw [14, 15, 16, 17, 18, 19] (zMg [14, 15, 16, 17, 18, 19, 8, 9, 10, 11, 12, 13] κ ν1)) := b1.cong (zMg_in (pl := [14, 15, 16, 17, 18, 19, 8, 9, 10, 11, 12, 13]) (c := 14) (by decide)) (zMg_in (pl := [14, 15, 16, 17, 18, 19, 8, 9, 10, 11, 12, 13]) (c := 15) (by decide)) (zMg_in (pl := [14, 15, 16, 17, 18, 19, 8, 9, 10, 11, 12, 13]) (c := 16) (by decide)) (zMg_in (pl := [14, 15, 16, 17, 18, 19, 8, 9, 10, 11, 12, 13]) (c := 17) (by decide)) (zMg_in (pl := [14, 15, 16, 17, 18, 19, 8, 9, 10, 11, 12, 13]) (c := 18) (by decide))
          generalize hκ1 : zMg [14, 15, 16, 17, 18, 19, 8, 9, 10, 11, 12, 13] κ ν1 = κ1 at *
          have em : κ1 11 ((i : Int) * 4 + 2) = s (30 + 4 * i + 2) := by
            rw [o1 11 (by decide)]
            exact hb'.de (d := i) (w := 2) (by omega) (by omega) (by decide) (by decide)
          obtain ⟨ν2, r2, b2, -, -⟩ := b_sellDeal (d := i) (sum := s (30 + 4 * i + 2)) (last := 1) b1' hi h6 hdl hB0 (by omega) ht (by omega) (by omega) hD.2.2.1.1 hD.2.2.1.2 (Or.inr rfl)
          have o2 : ∀ c, c < 14 ∨ 20 ≤ c → zMg [14, 15, 16, 17, 18, 19] κ1 ν2 c = κ c := fun c hc => by
            rw [zMg_out (by simp only [List.mem_cons, List.not_mem_nil, or_false]; omega)]
            exact o1 c hc
          have b2' : b_bk dl tm (q_sb tm i (s (30 + 4 * i + 2)) 1 s) (zVw [14, 15, 16, 17, 18, 19] (zMg [14, 15, 16, 17, 18, 19] κ1 ν2)) := b2.cong (zMg_in (pl := [14, 15, 16, 17, 18, 19]) (c := 14) (by decide)) (zMg_in (pl := [14, 15, 16, 17, 18, 19]) (c := 15) (by decide)) (zMg_in (pl := [14, 15, 16, 17, 18, 19]) (c := 16) (by decide)) (zMg_in (pl := [14, 15, 16, 17, 18, 19]) (c := 17) (by decide)) (zMg_in (pl := [14, 15, 16, 17, 18, 19]) (c := 18) (by decide))
          generalize hκ2 : zMg [14, 15, 16, 17, 18, 19] κ1 ν2 = κ2 at *
          have i2 := (hi.sb (last := 1) h6 hdl ht hB0 (by omega) (show (0 : Int) ≤ i by omega) (by omega) hD.2.2.1.1 hD.2.2.1.2).mono h6 (show B + 5 ≤ B + 6 by omega)
          have h3 : o_H L (1 + 1) (q_up p 1 i) (o_fd f i A) (zUp κ2 44 1 i) := by
            obtain ⟨g3, g44, g4, g45, gb⟩ := hh
            refine ⟨?_, fun q q0 q1 => ?_, ?_, fun q q0 q1 => ?_, gb⟩
            · rw [zUp_ne (by decide), o2 0 (by decide)]; exact g3
            · rw [zUp_at]
              by_cases hq : q = 1
              · rw [hq, q_up_at, q_up_at]
              · rw [q_up_ne hq, q_up_ne hq, o2 44 (by decide)]
                exact g44 q q0 (by omega)
            · rw [zUp_ne (by decide), o2 0 (by decide)]; exact g4
            · rw [zUp_ne (by decide), o2 45 (by decide)]; exact g45 q q0 q1
          obtain ⟨κ4, r4, f4, h4⟩ := o_try_2 (r := r) (j := 1 + 1) (by decide) (b2'.cong (ν' := zVw [14, 15, 16, 17, 18, 19] (zUp κ2 44 1 i)) (show zUp κ2 44 1 i 14 = κ2 14 from zUp_ne (by decide)) (show zUp κ2 44 1 i 15 = κ2 15 from zUp_ne (by decide)) (show zUp κ2 44 1 i 16 = κ2 16 from zUp_ne (by decide)) (show zUp κ2 44 1 i 17 = κ2 17 from zUp_ne (by decide)) (show zUp κ2 44 1 i 18 = κ2 18 from zUp_ne (by decide))) i2 h6 hdl ht (by omega) (by omega) (by omega) hL6 h3
          refine ⟨(i + 1, κ4), ?_, i + 1, rfl, by omega, fr.tr ⟨fun c hc => ?_, ?_, fun q hq => ?_⟩, ?_⟩
          · simp (disch := omega) only [L_Orders_tryFrom_1_73, J_Orders_tryFrom_1_129, Int.add_zero, Int.mul_zero, Int.reduceMul, Int.reduceAdd, Int.mul_one, Int.tdiv_eq_ediv_of_nonneg, Int.tmod_eq_emod_of_nonneg, ↓reduceIte, ↓zLet_eq, ↓zRd_ok, ↓zWr_ok, ↓zC_V, ↓zC_I, ↓zC_J, zUp_at, zUp_ne, q_up_at, q_up_ne, w32_of, w64_of, q_le_T, q_le_F, q_lt_T, q_lt_F, q_eq_T, q_eq_F, true_or, or_true, or_false, false_or, false_and, and_false, e5, eo, ↓zCm_I, ↓zCm_V, zMg_vw, r1, hκ1, em, r2, hκ2, r4]
          · show κ4 c = κ c
            rw [f4.1 c (by omega), zUp_ne (by omega), o2 c (by omega)]
          · show κ4 0 3 = κ 0 3
            rw [f4.2.1, zUp_ne (by decide), o2 0 (by decide)]
          · show κ4 44 q = κ 44 q
            rw [f4.2.2 q (by omega), zUp_at, q_up_ne (by omega), o2 44 (by decide)]
          · simp only []
            rw [ef, ← hA]
            simp only []
            rw [if_pos hc, hA]
            obtain ⟨g3, g44, g4, g45, gb⟩ := h4
            exact ⟨g3, fun q q0 q1 => by rw [g44 q q0 (by omega), q_up_ne (by omega)], g4, g45, gb⟩
        · rw [if_neg hc] at eo
          refine ⟨(i + 1, κ), ?_, i + 1, rfl, by omega, fr, ?_⟩
          · simp (disch := omega) only [L_Orders_tryFrom_1_73, J_Orders_tryFrom_1_129, Int.add_zero, Int.mul_zero, Int.reduceMul, Int.reduceAdd, Int.mul_one, Int.tdiv_eq_ediv_of_nonneg, Int.tmod_eq_emod_of_nonneg, ↓reduceIte, ↓zLet_eq, ↓zRd_ok, ↓zWr_ok, ↓zC_V, ↓zC_I, ↓zC_J, zUp_at, zUp_ne, q_up_at, q_up_ne, w32_of, w64_of, q_le_T, q_le_F, q_lt_T, q_lt_F, q_eq_T, q_eq_F, true_or, or_true, or_false, false_or, false_and, and_false, e5, eo, ↓zCm_I, zMg_vw]
          · simp only []
            rw [ef, ← hA]
            simp only []
            rw [if_neg hc, hA]
            exact hh) dl zN (0, μ) ⟨0, rfl, by omega, o_fr.rf _ _ _, h⟩ (Nat.le_of_lt (zN_gt (by omega)))
    simp only [] at e hv fr hh
    obtain rfl : i = dl := by omega
    have eo : o_tr tm i (r + 1) 1 s p A = o_fd f i A := by rw [o_tr, hA]
    refine ⟨κ, ?_, fr, by rw [eo]; exact hh⟩
    have hb' : b_bk i tm s (zVw [8, 9, 10, 11, 12, 13] κ) := hb.cong (fr.1 8 (by decide)) (fr.1 9 (by decide)) (fr.1 10 (by decide)) (fr.1 11 (by decide)) (fr.1 12 (by decide))
    have e5 : κ 8 5 = i := hb'.2.2.2.2.2.1
    unfold F_Orders_tryFrom_1
    rw [e3, w32_of (a := (L : Int)) (by omega) (by omega), w32_of (by omega) (by omega), if_neg (by omega)]
    refine e.trans ?_
    rw [hv]
    obtain ⟨n, hn⟩ : ∃ n, zN - i = n + 1 := ⟨zN - i - 1, by have := zN_gt (m := i) (by omega); omega⟩
    rw [hn]
    simp (disch := omega) only [L_Orders_tryFrom_1_73, Int.add_zero, Int.mul_zero, Int.reduceMul, Int.reduceAdd, Int.mul_one, Int.tdiv_eq_ediv_of_nonneg, Int.tmod_eq_emod_of_nonneg, ↓reduceIte, ↓zLet_eq, ↓zRd_ok, ↓zWr_ok, ↓zC_V, ↓zC_I, ↓zC_J, zUp_at, zUp_ne, q_up_at, q_up_ne, w32_of, w64_of, q_le_T, q_le_F, q_lt_T, q_lt_F, q_eq_T, q_eq_F, true_or, or_true, or_false, false_or, false_and, and_false, e5]
theorem o_leaf_0 {dl L : Nat} {tm s p : Int → Int} {A : OA} {μ : ZMem} {j : Int} (hj : j = 0) (hb : b_bk dl tm s (zVw [2, 3, 4, 5, 6, 7] μ)) (v0 : 0 ≤ s 86) (v1 : s 86 ≤ 1000000000) (hL : (L : Int) = j) (h : o_H L j p A μ) : ∃ μ', J_Orders_tryFrom_0_21 μ = some (.inr none, μ') ∧ o_fr 8 j μ μ' ∧ o_H L j p (o_lf p (s 86) A) μ' := by
  subst hj
  have e : μ 6 0 = s 86 := hb.2.2.2.2.1 0 (by decide) (by decide)
  obtain ⟨h3, h44, h4, h45, b0, b1⟩ := h
  unfold J_Orders_tryFrom_0_21 o_lf
  by_cases g : A.1 < s 86
  · refine ⟨zCopy (zUp μ 0 4 (s 86)) 44 45 6, ?_, ⟨fun c hc => ?_, ?_, fun i hi => ?_⟩, ?_⟩
    · simp (disch := omega) only [Int.add_zero, Int.mul_zero, Int.reduceMul, Int.reduceAdd, Int.mul_one, Int.tdiv_eq_ediv_of_nonneg, Int.tmod_eq_emod_of_nonneg, ↓reduceIte, ↓zLet_eq, ↓zRd_ok, ↓zWr_ok, ↓zC_V, ↓zC_I, ↓zC_J, zUp_at, zUp_ne, q_up_at, q_up_ne, w32_of, w64_of, q_le_T, q_le_F, q_lt_T, q_lt_F, q_eq_T, q_eq_F, true_or, or_true, or_false, false_or, false_and, and_false, e, h4]
    · rw [zCopy_ne (by omega), zUp_ne (by omega)]
    · rw [zCopy_ne (by decide), zUp_at, q_up_ne (by decide)]
    · rw [zCopy_ne (by decide), zUp_ne (by decide)]
    · rw [if_pos g]
      refine ⟨?_, fun i i0 i1 => ?_, ?_, fun i i0 i1 => ?_, by show -1 ≤ s 86; omega, v1⟩
      · rw [zCopy_ne (by decide), zUp_at, q_up_ne (by decide)]; exact h3
      · rw [zCopy_ne (by decide), zUp_ne (by decide)]; exact h44 i i0 i1
      · rw [zCopy_ne (by decide), zUp_at, q_up_at]
      · rw [zCopy_at i0 (by omega), zUp_ne (by decide)]; exact h44 i i0 (by omega)
  · refine ⟨μ, ?_, o_fr.rf _ _ _, ?_⟩
    · simp (disch := omega) only [Int.add_zero, Int.mul_zero, Int.reduceMul, Int.reduceAdd, Int.mul_one, Int.tdiv_eq_ediv_of_nonneg, Int.tmod_eq_emod_of_nonneg, ↓reduceIte, ↓zLet_eq, ↓zRd_ok, ↓zWr_ok, ↓zC_V, ↓zC_I, ↓zC_J, zUp_at, zUp_ne, q_up_at, q_up_ne, w32_of, w64_of, q_le_T, q_le_F, q_lt_T, q_lt_F, q_eq_T, q_eq_F, true_or, or_true, or_false, false_or, false_and, and_false, e, h4]
    · rw [if_neg g]
      exact ⟨h3, h44, h4, h45, b0, b1⟩
theorem o_try_0 {m dl L r : Nat} {B : Int} {tm s p : Int → Int} {A : OA} {μ : ZMem} {j : Int} (hj : j = 0) (hb : b_bk dl tm s (zVw [2, 3, 4, 5, 6, 7] μ)) (hi : q_inv m dl B s) (h6 : m ≤ 6) (hdl : dl ≤ 6) (ht : q_tm tm) (hB0 : 0 ≤ B) (hB1 : B + 6 * (6 - j) ≤ 800) (hL : (L : Int) = j + r) (hL6 : L ≤ 6) (h : o_H L j p A μ) : ∃ μ', F_Orders_tryFrom_0 μ = some (.inr none, μ') ∧ o_fr 8 j μ μ' ∧ o_H L j p (o_tr tm dl r j s p A) μ' := by
  have hP := hi.2.2.2.1
  have v86 : s 86 ≤ 100000 * B := hP.1.2
  have v91 : 0 ≤ s 91 ∧ s 91 ≤ 1 := hP.2.2.2.2.2
  have e3 : μ 0 3 = L := h.1
  cases r with
  | zero =>
    obtain ⟨μ', r1, f1, h1⟩ := o_leaf_0 hj hb hP.1.1 (by omega) (by omega) h
    refine ⟨μ', ?_, f1, h1⟩
    unfold F_Orders_tryFrom_0
    rw [e3, w32_of (by omega) (by omega), w32_of (by omega) (by omega), if_pos (by omega)]
    exact r1
  | succ r =>
    subst hj
    generalize hA : (fun (d : Nat) (A : OA) => if s (30 + 4 * (d : Int) + 3) = 0 then o_tr tm dl r (0 + 1) (q_sb tm d (s (30 + 4 * (d : Int) + 2)) 1 s) (q_up p 0 d) A else A) = f
    obtain ⟨⟨v, κ⟩, e, i, hv, hii, fr, hh⟩ := q_loop (L := fun n (b : Int × ZMem) => L_Orders_tryFrom_0_73 (fun μ16 => some (.inr none, μ16)) n b.1 b.2) (P := fun k b => ∃ i : Nat, b.1 = i ∧ i + k = dl ∧ o_fr 8 0 μ b.2 ∧ o_H L 0 p (o_fd f i A) b.2) (fun n k b hb2 => by
        obtain ⟨v, κ⟩ := b
        obtain ⟨i, rfl, hii, fr, hh⟩ := hb2
        simp only [] at fr hh ⊢
        have hb' : b_bk dl tm s (zVw [2, 3, 4, 5, 6, 7] κ) := hb.cong (fr.1 2 (by decide)) (fr.1 3 (by decide)) (fr.1 4 (by decide)) (fr.1 5 (by decide)) (fr.1 6 (by decide))
        have e5 : κ 2 5 = dl := hb'.2.2.2.2.2.1
        have hD := hi.2.1 i (by omega)
        have eo := b_isOpen (d := i) hb' (by omega) (by omega) hD.2.2.2.1 hD.2.2.2.2
        have ef : o_fd f (i + 1) A = f i (o_fd f i A) := rfl
        by_cases hc : s (30 + 4 * i + 3) = 0
        · rw [if_pos hc] at eo
          obtain ⟨ν1, r1, b1, f1⟩ := b_copyFrom (μ := zVw [8, 9, 10, 11, 12, 13, 2, 3, 4, 5, 6, 7] κ) (hb'.cong rfl rfl rfl rfl rfl) (by omega)
          have o1 : ∀ c, c < 8 ∨ 14 ≤ c → zMg [8, 9, 10, 11, 12, 13, 2, 3, 4, 5, 6, 7] κ ν1 c = κ c := fun c hc => zMg_6 f1 (by
            show c ∉ [8, 9, 10, 11, 12, 13]
            simp only [List.mem_cons, List.not_mem_nil, or_false]
            omega)
          have b1' : b_bk dl tm s (zVw [8, 9, 10, 11, 12, 13] (zMg [8, 9, 10, 11, 12, 13, 2, 3, 4, 5, 6, 7] κ ν1)) := b1.cong (zMg_in (pl := [8, 9, 10, 11, 12, 13, 2, 3, 4, 5, 6, 7]) (c := 8) (by decide)) (zMg_in (pl := [8, 9, 10, 11, 12, 13, 2, 3, 4, 5, 6, 7]) (c := 9) (by decide)) (zMg_in (pl := [8, 9, 10, 11, 12, 13, 2, 3, 4, 5, 6, 7]) (c := 10) (by decide)) (zMg_in (pl := [8, 9, 10, 11, 12, 13, 2, 3, 4, 5, 6, 7]) (c := 11) (by decide)) (zMg_in (pl := [8, 9, 10, 11, 12, 13, 2, 3, 4, 5, 6, 7]) (c := 12) (by decide))
          generalize hκ1 : zMg [8, 9, 10, 11, 12, 13, 2, 3, 4, 5, 6, 7] κ ν1 = κ1 at *
          have em : κ1 5 ((i : Int) * 4 + 2) = s (30 + 4 * i + 2) := by
            rw [o1 5 (by decide)]
            exact hb'.de (d := i) (w := 2) (by omega) (by omega) (by decide) (by decide)
          obtain ⟨ν2, r2, b2, -, -⟩ := b_sellDeal (d := i) (sum := s (30 + 4 * i + 2)) (last := 1) b1' hi h6 hdl hB0 (by omega) ht (by omega) (by omega) hD.2.2.1.1 hD.2.2.1.2 (Or.inr rfl)
          have o2 : ∀ c, c < 8 ∨ 14 ≤ c → zMg [8, 9, 10, 11, 12, 13] κ1 ν2 c = κ c := fun c hc => by
            rw [zMg_out (by simp only [List.mem_cons, List.not_mem_nil, or_false]; omega)]
            exact o1 c hc
          have b2' : b_bk dl tm (q_sb tm i (s (30 + 4 * i + 2)) 1 s) (zVw [8, 9, 10, 11, 12, 13] (zMg [8, 9, 10, 11, 12, 13] κ1 ν2)) := b2.cong (zMg_in (pl := [8, 9, 10, 11, 12, 13]) (c := 8) (by decide)) (zMg_in (pl := [8, 9, 10, 11, 12, 13]) (c := 9) (by decide)) (zMg_in (pl := [8, 9, 10, 11, 12, 13]) (c := 10) (by decide)) (zMg_in (pl := [8, 9, 10, 11, 12, 13]) (c := 11) (by decide)) (zMg_in (pl := [8, 9, 10, 11, 12, 13]) (c := 12) (by decide))
          generalize hκ2 : zMg [8, 9, 10, 11, 12, 13] κ1 ν2 = κ2 at *
          have i2 := (hi.sb (last := 1) h6 hdl ht hB0 (by omega) (show (0 : Int) ≤ i by omega) (by omega) hD.2.2.1.1 hD.2.2.1.2).mono h6 (show B + 5 ≤ B + 6 by omega)
          have h3 : o_H L (0 + 1) (q_up p 0 i) (o_fd f i A) (zUp κ2 44 0 i) := by
            obtain ⟨g3, g44, g4, g45, gb⟩ := hh
            refine ⟨?_, fun q q0 q1 => ?_, ?_, fun q q0 q1 => ?_, gb⟩
            · rw [zUp_ne (by decide), o2 0 (by decide)]; exact g3
            · rw [zUp_at]
              by_cases hq : q = 0
              · rw [hq, q_up_at, q_up_at]
              · rw [q_up_ne hq, q_up_ne hq, o2 44 (by decide)]
                exact g44 q q0 (by omega)
            · rw [zUp_ne (by decide), o2 0 (by decide)]; exact g4
            · rw [zUp_ne (by decide), o2 45 (by decide)]; exact g45 q q0 q1
          obtain ⟨κ4, r4, f4, h4⟩ := o_try_1 (r := r) (j := 0 + 1) (by decide) (b2'.cong (ν' := zVw [8, 9, 10, 11, 12, 13] (zUp κ2 44 0 i)) (show zUp κ2 44 0 i 8 = κ2 8 from zUp_ne (by decide)) (show zUp κ2 44 0 i 9 = κ2 9 from zUp_ne (by decide)) (show zUp κ2 44 0 i 10 = κ2 10 from zUp_ne (by decide)) (show zUp κ2 44 0 i 11 = κ2 11 from zUp_ne (by decide)) (show zUp κ2 44 0 i 12 = κ2 12 from zUp_ne (by decide))) i2 h6 hdl ht (by omega) (by omega) (by omega) hL6 h3
          refine ⟨(i + 1, κ4), ?_, i + 1, rfl, by omega, fr.tr ⟨fun c hc => ?_, ?_, fun q hq => ?_⟩, ?_⟩
          · simp (disch := omega) only [L_Orders_tryFrom_0_73, J_Orders_tryFrom_0_129, Int.add_zero, Int.mul_zero, Int.reduceMul, Int.reduceAdd, Int.mul_one, Int.tdiv_eq_ediv_of_nonneg, Int.tmod_eq_emod_of_nonneg, ↓reduceIte, ↓zLet_eq, ↓zRd_ok, ↓zWr_ok, ↓zC_V, ↓zC_I, ↓zC_J, zUp_at, zUp_ne, q_up_at, q_up_ne, w32_of, w64_of, q_le_T, q_le_F, q_lt_T, q_lt_F, q_eq_T, q_eq_F, true_or, or_true, or_false, false_or, false_and, and_false, e5, eo, ↓zCm_I, ↓zCm_V, zMg_vw, r1, hκ1, em, r2, hκ2, r4]
          · show κ4 c = κ c
            rw [f4.1 c (by omega), zUp_ne (by omega), o2 c (by omega)]
          · show κ4 0 3 = κ 0 3
            rw [f4.2.1, zUp_ne (by decide), o2 0 (by decide)]
          · show κ4 44 q = κ 44 q
            rw [f4.2.2 q (by omega), zUp_at, q_up_ne (by omega), o2 44 (by decide)]
          · simp only []
            rw [ef, ← hA]
            simp only []
            rw [if_pos hc, hA]
            obtain ⟨g3, g44, g4, g45, gb⟩ := h4
            exact ⟨g3, fun q q0 q1 => by rw [g44 q q0 (by omega), q_up_ne (by omega)], g4, g45, gb⟩
        · rw [if_neg hc] at eo
          refine ⟨(i + 1, κ), ?_, i + 1, rfl, by omega, fr, ?_⟩
          · simp (disch := omega) only [L_Orders_tryFrom_0_73, J_Orders_tryFrom_0_129, Int.add_zero, Int.mul_zero, Int.reduceMul, Int.reduceAdd, Int.mul_one, Int.tdiv_eq_ediv_of_nonneg, Int.tmod_eq_emod_of_nonneg, ↓reduceIte, ↓zLet_eq, ↓zRd_ok, ↓zWr_ok, ↓zC_V, ↓zC_I, ↓zC_J, zUp_at, zUp_ne, q_up_at, q_up_ne, w32_of, w64_of, q_le_T, q_le_F, q_lt_T, q_lt_F, q_eq_T, q_eq_F, true_or, or_true, or_false, false_or, false_and, and_false, e5, eo, ↓zCm_I, zMg_vw]
          · simp only []
            rw [ef, ← hA]
            simp only []
            rw [if_neg hc, hA]
            exact hh) dl zN (0, μ) ⟨0, rfl, by omega, o_fr.rf _ _ _, h⟩ (Nat.le_of_lt (zN_gt (by omega)))
    simp only [] at e hv fr hh
    obtain rfl : i = dl := by omega
    have eo : o_tr tm i (r + 1) 0 s p A = o_fd f i A := by rw [o_tr, hA]
    refine ⟨κ, ?_, fr, by rw [eo]; exact hh⟩
    have hb' : b_bk i tm s (zVw [2, 3, 4, 5, 6, 7] κ) := hb.cong (fr.1 2 (by decide)) (fr.1 3 (by decide)) (fr.1 4 (by decide)) (fr.1 5 (by decide)) (fr.1 6 (by decide))
    have e5 : κ 2 5 = i := hb'.2.2.2.2.2.1
    unfold F_Orders_tryFrom_0
    rw [e3, w32_of (a := (L : Int)) (by omega) (by omega), w32_of (by omega) (by omega), if_neg (by omega)]
    refine e.trans ?_
    rw [hv]
    obtain ⟨n, hn⟩ : ∃ n, zN - i = n + 1 := ⟨zN - i - 1, by have := zN_gt (m := i) (by omega); omega⟩
    rw [hn]
    simp (disch := omega) only [L_Orders_tryFrom_0_73, Int.add_zero, Int.mul_zero, Int.reduceMul, Int.reduceAdd, Int.mul_one, Int.tdiv_eq_ediv_of_nonneg, Int.tmod_eq_emod_of_nonneg, ↓reduceIte, ↓zLet_eq, ↓zRd_ok, ↓zWr_ok, ↓zC_V, ↓zC_I, ↓zC_J, zUp_at, zUp_ne, q_up_at, q_up_ne, w32_of, w64_of, q_le_T, q_le_F, q_lt_T, q_lt_F, q_eq_T, q_eq_F, true_or, or_true, or_false, false_or, false_and, and_false, e5]
