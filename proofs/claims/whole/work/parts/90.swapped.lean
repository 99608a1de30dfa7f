/-! ===== face: swapped ===== -/
section FW
variable {m dl a : Nat} {B d sum : Int} {tm ex pr J s s' : Int → Int} {σ : QS} {κ μ ν : ZMem} {x y z : Int}
theorem q_sw_none {k : Int} {j : Nat} (h : q_sw m dl tm ex pr J k j = none) : ∀ i : Nat, q_sw m dl tm ex pr J k (j + i) = none
  | 0 => h
  | i + 1 => by
    show q_sw m dl tm ex pr J k (j + i + 1) = none
    rw [q_sw, q_sw_none h i]
theorem k_swapped {k : Nat} (C : c_at m dl a tm ex pr J κ) (hf : q_fu m dl tm ex pr) (hj : q_jo m dl tm ex pr J a) (hk : k + 1 < a) (K : ZMem → Option ZRes) : ∀ (i j : Nat), j + i = a → ∀ (fu : Nat) (κ1 : ZMem) (σ : QS), i < fu → q_sw m dl tm ex pr J k j = some σ → s_U m dl tm ex σ (zVw plU κ1) → (∀ c, c < 32 ∨ 51 ≤ c → κ1 c = κ c) → ∃ κ2, κ2 32 2 = 0 ∧ (∀ c, c < 32 ∨ 51 ≤ c → κ2 c = κ c) ∧ ((q_sw m dl tm ex pr J k a = none ∧ L_Ledger_swapped_38 k K fu j κ1 = some (.inr (some (zJ (-1))), κ2)) ∨ (∃ σ', q_sw m dl tm ex pr J k a = some σ' ∧ s_U m dl tm ex σ' (zVw plU κ2) ∧ L_Ledger_swapped_38 k K fu j κ1 = K κ2)) := by
  have h60 := hj.1
  have k11 : κ 11 1 = a := C.2.1.1
  have hJ : j_rw J a (κ 12) := C.2.1.2.1
  have ho := q_sw_ok (k := k) hf h60 hk (fun j hjj => (hj.2 j hjj).1)
  intro i
  induction i with
  | zero =>
    intro j hji fu κ1 σ h1 hsw hs f1
    obtain ⟨fu, rfl⟩ : ∃ g, fu = g + 1 := ⟨fu - 1, by omega⟩
    obtain rfl : j = a := by omega
    refine ⟨κ1, hs.2, f1, Or.inr ⟨σ, hsw, hs, ?_⟩⟩
    rw [L_Ledger_swapped_38, f1 11 (by decide), k11, if_pos (Int.le_refl _)]
  | succ i ih =>
    intro j hji fu κ1 σ h1 hsw hs f1
    obtain ⟨fu, rfl⟩ : ∃ g, fu = g + 1 := ⟨fu - 1, by omega⟩
    obtain ⟨i1, i2⟩ := ho j σ (by omega) hsw
    have hq := i1.2.2.2.1.2.2.2.2.1
    have hits : 0 ≤ q_its k j ∧ q_its k j < a := by
      unfold q_its
      split
      · omega
      · split <;> omega
    obtain ⟨t, ht⟩ := Int.eq_ofNat_of_zero_le hits.1
    have eL : L_Ledger_swapped_38 k K (fu + 1) j κ1 = J_Ledger_swapped_72 (fun v2 μ => L_Ledger_swapped_38 k K fu v2 μ) K k j t κ1 := by
      rw [L_Ledger_swapped_38, f1 11 (by decide), k11, w32_of (a := (a : Int)) (by omega) (by omega), w32_of (a := (j : Int)) (by omega) (by omega), if_neg (by omega), w32_of (a := (k : Int)) (by omega) (by omega), w32_of (a := (k : Int) + 1) (by omega) (by omega), ← ht]
      unfold q_its
      by_cases c1 : (j : Int) = k
      · rw [if_pos c1, if_pos c1]
      · rw [if_neg c1, if_neg c1]
        by_cases c2 : (j : Int) = k + 1
        · rw [if_pos c2, if_pos c2]
        · rw [if_neg c2, if_neg c2]
    obtain ⟨κ2, r, hs2, f2⟩ := k_follow (k := t) (a := a) (J := J) hs i1 hf (by omega) (by omega) (by rw [f1 12 (by decide)]; exact hJ) (by omega) h60 (hj.2 t (by omega)).1
    have esw : q_sw m dl tm ex pr J k (j + 1) = if q_jc m dl ex J t σ.1 = 1 then some (q_jd m tm ex J t σ) else none := by
      rw [q_sw, hsw, ← ht]
    have fr2 : ∀ c, c < 32 ∨ 51 ≤ c → κ2 c = κ c := fun c hc => (f2 c hc).trans (f1 c hc)
    rw [eL]
    unfold J_Ledger_swapped_72
    rw [r]
    by_cases hc : q_jc m dl ex J t σ.1 = 1
    · rw [if_pos hc] at esw hs2
      obtain ⟨κ3, g1, g2, g3⟩ := ih (j + 1) (by omega) fu κ2 _ (by omega) esw hs2 fr2
      refine ⟨κ3, g1, g2, ?_⟩
      rw [hc, w32_of (by decide) (by decide), if_neg (by decide), zLet_eq]
      exact g3
    · have h0 : q_jc m dl ex J t σ.1 = 0 := q_can_01.resolve_right hc
      rw [if_neg hc] at esw hs2
      refine ⟨κ2, hs2.2, fr2, Or.inl ⟨?_, ?_⟩⟩
      · have := q_sw_none esw i
        rwa [show j + 1 + i = a by omega] at this
      · rw [h0, w32_of (by decide) (by decide), if_pos rfl]
theorem face_swapped (h : z_rest m dl a κ μ) (hx : q_i32 x) : z_face [(eIOB, 1)] m dl a κ μ (F_Ledger_swapped x κ) (F_Model_swapped x μ) := by
  obtain ⟨hf, h6, hdl, ht, ⟨m5, m6, m11, ha⟩, ⟨k3, k4, k11⟩, hi, hq, hs⟩ := h.all
  obtain ⟨M, C⟩ := h
  have hj := M.2.2.1
  obtain ⟨x1, x2⟩ := hx
  by_cases gx : 0 ≤ x ∧ x + 1 < a
  · obtain ⟨k, rfl⟩ := Int.eq_ofNat_of_zero_le gx.1
    obtain ⟨κ1, c1, s1, f1⟩ := k_open C h6
    obtain ⟨κ2, z2, f2, ho⟩ := k_swapped (k := k) C hf hj (by omega) (fun μ6 => zCm plUB μ6 (F_Books_netTaken (zVw plUB μ6)) (zkJ (fun x8 μ7 => some (.inr (some (zJ x8)), μ7))) zX0) a 0 (by omega) zN κ1 (q_0 m (μ 3)) (zN_gt (by omega)) rfl s1 f1
    have hcf : c_fr κ κ2 := c_fr.trial C z2 f2
    have eC : ∀ r, L_Ledger_swapped_38 k (fun μ6 => zCm plUB μ6 (F_Books_netTaken (zVw plUB μ6)) (zkJ (fun x8 μ7 => some (.inr (some (zJ x8)), μ7))) zX0) zN ((0 : Nat) : Int) κ1 = r → F_Ledger_swapped k κ = r := fun r hr' => by
      unfold F_Ledger_swapped
      rw [w32_of x1 x2, if_neg (by omega), k11, w32_of (by omega) (by omega), if_pos (by omega), c1]
      exact hr'
    have w2 : zUp μ 0 0 0 2 = μ 2 := zUp_ne (by decide)
    have w3 : zUp μ 0 0 0 3 = μ 3 := zUp_ne (by decide)
    have w4 : zUp μ 0 0 0 4 = μ 4 := zUp_ne (by decide)
    have w8 : zUp μ 0 0 0 8 = μ 8 := zUp_ne (by decide)
    have M0 := M.up0 0
    obtain ⟨μ1, r1, kp1, h01, h91, h101, hs1⟩ := m_anewS M0.1
    obtain ⟨v, μ2, r2, kp2, cf2, hv⟩ := m_swapped_loop (k := k) (μ1 := μ1) (K := fun k12 μ11 => if w32 k12 = 0 then (J_Model_swapped_118 (-1) μ11) else (zC (F_Model_keeps μ11) (zkJ (fun x16 μ15 => J_Model_swapped_118 x16 μ15)) zX0)) M0.1 M0.2.1 M0.2.2.1 (by omega) kp1 (by rw [h01]; exact M0.1.2.2.2.2.2.2) hs1
    rw [w2, w3, w4, w8] at hv
    obtain ⟨-, t2, t3, t4, t8, t05, t06, t11⟩ := kp2.at
    obtain ⟨μ3, r3, kp3, at3⟩ := m_worksOutS (a := a) cf2 (t11.trans M0.2.1) (by rw [t2, t4, t3, t8]; exact M0.2.2.1)
    obtain ⟨hfr, h00⟩ := (kp2.tr kp3).fr0
    have eM : F_Model_swapped k μ = if w32 v = 0 then (J_Model_swapped_118 (-1) μ2) else (zC (F_Model_keeps μ2) (zkJ (fun x16 μ15 => J_Model_swapped_118 x16 μ15)) zX0) := by
      unfold F_Model_swapped J_Model_swapped_22
      rw [w32_of x1 x2, m11, w32_of (by omega) (by omega), z_isInY gx.1 (by omega) (by decide) (by omega), zC_I, w32_of (by decide) (by decide), if_neg (by decide), zLet_eq, zUp_at, q_up_at, w32_of (by decide) (by decide), if_pos (by decide), r1, zC_V]
      exact r2
    rcases hv with ⟨v0, hn⟩ | ⟨v1, σ', hsw, hσ⟩
    · rcases ho with ⟨-, g⟩ | ⟨σ', hsw, -⟩
      · refine z_face.ok (v := zJ (-1)) (κ' := κ2) (μ' := μ3) (eC _ g) ?_ hcf hfr at3 h00
        rw [eM, v0, w32_of (by decide) (by decide), if_pos rfl]
        unfold J_Model_swapped_118
        rw [r3, zC_V]
      · rw [hn] at hsw
        exact absurd hsw (by simp)
    · rcases ho with ⟨hn, -⟩ | ⟨σ2, hsw2, hs2, g⟩
      · rw [hn] at hsw
        exact absurd hsw (by simp)
      · rw [hsw] at hsw2
        obtain rfl : σ' = σ2 := Option.some.inj hsw2
        obtain ⟨-, p5, -, -⟩ := q_pair hσ
        have bb : b_bk dl (μ 2) σ'.1 (zVw plUB κ2) := hs2.1.1
        refine z_face.ok (v := zJ (σ'.1 86 - σ'.1 89)) (κ' := κ2) (μ' := μ3) (eC _ (g.trans ?_)) ?_ hcf hfr at3 h00
        · rw [b_netTaken bb, zCm_J, zMg_vw]
        · rw [eM, v1, w32_of (by decide) (by decide), if_neg (by decide), m_keeps, zC_J, p5]
          unfold J_Model_swapped_118
          rw [r3, zC_V]
  · refine z_face.th (v := zJ 0) (E := eIOB) (n := 1) M ?_ ?_ (by decide) (by decide +kernel)
    · unfold F_Ledger_swapped J_Ledger_swapped_17
      by_cases h0 : x < 0
      · simp (disch := omega) only [Int.add_zero, Int.mul_zero, Int.reduceMul, Int.reduceAdd, Int.mul_one, Int.tdiv_eq_ediv_of_nonneg, Int.tmod_eq_emod_of_nonneg, ↓reduceIte, ↓zLet_eq, ↓zRd_ok, ↓zWr_ok, ↓zC_V, ↓zC_I, ↓zC_J, zUp_at, zUp_ne, q_up_at, q_up_ne, w32_of, w64_of, q_le_T, q_le_F, q_lt_T, q_lt_F, q_eq_T, q_eq_F, true_or, or_true, or_false, false_or, false_and, and_false]
      · simp (disch := omega) only [Int.add_zero, Int.mul_zero, Int.reduceMul, Int.reduceAdd, Int.mul_one, Int.tdiv_eq_ediv_of_nonneg, Int.tmod_eq_emod_of_nonneg, ↓reduceIte, ↓zLet_eq, ↓zRd_ok, ↓zWr_ok, ↓zC_V, ↓zC_I, ↓zC_J, zUp_at, zUp_ne, q_up_at, q_up_ne, w32_of, w64_of, q_le_T, q_le_F, q_lt_T, q_lt_F, q_eq_T, q_eq_F, true_or, or_true, or_false, false_or, false_and, and_false, k11]
    · unfold F_Model_swapped J_Model_swapped_22
      simp (disch := omega) only [Int.add_zero, Int.mul_zero, Int.reduceMul, Int.reduceAdd, Int.mul_one, Int.tdiv_eq_ediv_of_nonneg, Int.tmod_eq_emod_of_nonneg, ↓reduceIte, ↓zLet_eq, ↓zRd_ok, ↓zWr_ok, ↓zC_V, ↓zC_I, ↓zC_J, zUp_at, zUp_ne, q_up_at, q_up_ne, w32_of, w64_of, q_le_T, q_le_F, q_lt_T, q_lt_F, q_eq_T, q_eq_F, true_or, or_true, or_false, false_or, false_and, and_false, z_isInN]
end FW
