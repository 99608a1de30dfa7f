/-! ===== faces: without, idle, blame ===== -/
def q_wk (m dl : Nat) (tm ex pr J : Int → Int) (a : Nat) (k : Int) : Int := (q_wo m dl tm ex pr J k a).1 86 - (q_wo m dl tm ex pr J k a).1 89
def q_id (w : Int → Int) (c : Int) : Nat → Int
  | 0 => 0
  | j + 1 => if w64 (w j) = w64 c then q_id w c j + 1 else q_id w c j
def q_bl (w : Int → Int) : Nat → Int × Int
  | 0 => (-1, 0)
  | j + 1 => if (q_bl w j).1 = -1 then ((j : Int), w j) else if w64 (w j) ≤ w64 (q_bl w j).2 then q_bl w j else ((j : Int), w j)
theorem q_bl_in (w : Int → Int) : ∀ j : Nat, -1 ≤ (q_bl w j).1 ∧ (q_bl w j).1 < j
  | 0 => by rw [q_bl]; simp only []; omega
  | j + 1 => by
    have := q_bl_in w j
    rw [q_bl]
    split
    · simp only []; omega
    · split
      · omega
      · simp only []; omega
section FU
variable {m dl a : Nat} {B d sum : Int} {tm ex pr J s s' : Int → Int} {σ : QS} {κ μ ν : ZMem} {x y z : Int}
theorem k_without {k : Int} (C : c_at m dl a tm ex pr J κ) (hf : q_fu m dl tm ex pr) (hj : q_jo m dl tm ex pr J a) (k0 : 0 ≤ k) (k1 : k < 100) : ∃ κ', F_Ledger_netTakenWithout k κ = some (.inr (some (zJ (q_wk m dl tm ex pr J a k))), κ') ∧ c_fr κ κ' := by
  have h60 := hj.1
  have k11 : κ 11 1 = a := C.2.1.1
  have hJ : j_rw J a (κ 12) := C.2.1.2.1
  have ho := q_wo_ok (k := k) hf h60 (fun j hjj => (hj.2 j hjj).1)
  obtain ⟨κ1, c1, s1, f1⟩ := k_open C hf.1
  unfold F_Ledger_netTakenWithout
  rw [c1]
  obtain ⟨⟨v, κ2⟩, e, j, hv, hjj, hs2, f2⟩ := q_loop (L := fun f (b : Int × ZMem) => L_Ledger_netTakenWithout_13 k (fun μ6 => zCm plUB μ6 (F_Books_netTaken (zVw plUB μ6)) (zkJ (fun x8 μ7 => some (.inr (some (zJ x8)), μ7))) zX0) f b.1 b.2) (P := fun i b => ∃ j : Nat, b.1 = j ∧ j + i = a ∧ s_U m dl tm ex (q_wo m dl tm ex pr J k j) (zVw plU b.2) ∧ (∀ c, c < 32 ∨ 51 ≤ c → b.2 c = κ c)) (fun f i b hb => by
      obtain ⟨v, κ2⟩ := b
      obtain ⟨j, hv, hjj, hs2, f2⟩ := hb
      simp only [] at hv hs2 f2 ⊢
      subst hv
      have e11 : κ2 11 1 = a := by rw [f2 11 (by decide)]; exact k11
      have ew : q_wo m dl tm ex pr J k (j + 1) = if (j : Int) ≠ k ∧ q_jc m dl ex J j (q_wo m dl tm ex pr J k j).1 = 1 then q_jd m tm ex J j (q_wo m dl tm ex pr J k j) else q_wo m dl tm ex pr J k j := rfl
      by_cases ek : (j : Int) = k
      · rw [if_neg (fun h => h.1 ek)] at ew
        refine ⟨((j : Int) + 1, κ2), ?_, j + 1, rfl, by omega, by rw [ew]; exact hs2, f2⟩
        rw [L_Ledger_netTakenWithout_13, e11, w32_of (by omega) (by omega), w32_of (by omega) (by omega), if_neg (by omega), w32_of (a := k) (by omega) (by omega), if_pos ek]
        unfold J_Ledger_netTakenWithout_42
        rw [zLet_eq]
      · obtain ⟨i1, i2⟩ := ho j (by omega)
        have hq := i1.2.2.2.1.2.2.2.2.1
        obtain ⟨κ3, r, hs3, f3⟩ := k_follow (k := j) (a := a) (J := J) hs2 i1 hf (by omega) (by omega) (by rw [f2 12 (by decide)]; exact hJ) (by omega) h60 (hj.2 j (by omega)).1
        have ew' : q_wo m dl tm ex pr J k (j + 1) = if q_jc m dl ex J j (q_wo m dl tm ex pr J k j).1 = 1 then q_jd m tm ex J j (q_wo m dl tm ex pr J k j) else q_wo m dl tm ex pr J k j := by
          rw [ew]
          by_cases hc : q_jc m dl ex J j (q_wo m dl tm ex pr J k j).1 = 1
          · rw [if_pos ⟨ek, hc⟩, if_pos hc]
          · rw [if_neg (fun h => hc h.2), if_neg hc]
        refine ⟨((j : Int) + 1, κ3), ?_, j + 1, rfl, by omega, by rw [ew']; exact hs3, fun c hc => (f3 c hc).trans (f2 c hc)⟩
        rw [L_Ledger_netTakenWithout_13, e11, w32_of (by omega) (by omega), w32_of (by omega) (by omega), if_neg (by omega), w32_of (a := k) (by omega) (by omega), if_neg ek, r]
        unfold J_Ledger_netTakenWithout_42
        rw [zLet_eq]) a zN (0, κ1) ⟨0, rfl, by omega, s1, f1⟩ (Nat.le_of_lt (zN_gt (by omega)))
  simp only [] at e hv hs2 f2
  obtain rfl : j = a := by omega
  have bb : b_bk dl tm (q_wo m dl tm ex pr J k j).1 (zVw plUB κ2) := hs2.1.1
  refine ⟨κ2, ?_, c_fr.trial C hs2.2 f2⟩
  refine e.trans ?_
  rw [hv]
  obtain ⟨f, hfu⟩ : ∃ f, zN - j = f + 1 := ⟨zN - j - 1, by have := zN_gt (m := j) (by omega); omega⟩
  rw [hfu, L_Ledger_netTakenWithout_13, f2 11 (by decide), k11, if_pos (Int.le_refl _), b_netTaken bb, zCm_J, zMg_vw]
  rfl
theorem face_without (h : z_rest m dl a κ μ) (hx : q_i32 x) : z_face [(eIOB, 1)] m dl a κ μ (F_Ledger_without x κ) (F_Model_without x μ) := by
  obtain ⟨hf, h6, hdl, ht, ⟨m5, m6, m11, ha⟩, ⟨k3, k4, k11⟩, hi, hq, hs⟩ := h.all
  obtain ⟨M, C⟩ := h
  obtain ⟨x1, x2⟩ := hx
  by_cases gx : 0 ≤ x ∧ x < a
  · obtain ⟨κ1, e1, fr1⟩ := k_without (k := x) C hf M.2.2.1 gx.1 (by omega)
    have M0 := M.up0 0
    obtain ⟨μ1, r1, kp1, at1⟩ := m_keptWithout (k := x) M0.1 M0.2.1 M0.2.2.1 gx.1 (by omega)
    have w2 : zUp μ 0 0 0 2 = μ 2 := zUp_ne (by decide)
    have w3 : zUp μ 0 0 0 3 = μ 3 := zUp_ne (by decide)
    have w4 : zUp μ 0 0 0 4 = μ 4 := zUp_ne (by decide)
    have w8 : zUp μ 0 0 0 8 = μ 8 := zUp_ne (by decide)
    rw [w2, w3, w4, w8] at r1
    obtain ⟨hfr, h00⟩ := kp1.fr0
    refine z_face.ok (v := zJ (q_wk m dl (μ 2) (μ 4) (μ 3) (μ 8) a x)) (κ' := κ1) (μ' := μ1) ?_ ?_ fr1 hfr at1 h00
    · unfold F_Ledger_without
      simp (disch := omega) only [Int.add_zero, Int.mul_zero, Int.reduceMul, Int.reduceAdd, Int.mul_one, Int.tdiv_eq_ediv_of_nonneg, Int.tmod_eq_emod_of_nonneg, ↓reduceIte, ↓zLet_eq, ↓zRd_ok, ↓zWr_ok, ↓zC_V, ↓zC_I, ↓zC_J, zUp_at, zUp_ne, q_up_at, q_up_ne, w32_of, w64_of, q_le_T, q_le_F, q_lt_T, q_lt_F, q_eq_T, q_eq_F, true_or, or_true, or_false, false_or, false_and, and_false, k11, e1]
    · unfold F_Model_without J_Model_without_22
      simp (disch := omega) only [Int.add_zero, Int.mul_zero, Int.reduceMul, Int.reduceAdd, Int.mul_one, Int.tdiv_eq_ediv_of_nonneg, Int.tmod_eq_emod_of_nonneg, ↓reduceIte, ↓zLet_eq, ↓zRd_ok, ↓zWr_ok, ↓zC_V, ↓zC_I, ↓zC_J, zUp_at, zUp_ne, q_up_at, q_up_ne, w32_of, w64_of, q_le_T, q_le_F, q_lt_T, q_lt_F, q_eq_T, q_eq_F, true_or, or_true, or_false, false_or, false_and, and_false, m11, z_isInY, r1]
      rfl
  · refine z_face.th (v := zJ 0) (E := eIOB) (n := 1) M ?_ ?_ (by decide) (by decide +kernel)
    · unfold F_Ledger_without J_Ledger_without_15
      by_cases h0 : x < 0
      · simp (disch := omega) only [Int.add_zero, Int.mul_zero, Int.reduceMul, Int.reduceAdd, Int.mul_one, Int.tdiv_eq_ediv_of_nonneg, Int.tmod_eq_emod_of_nonneg, ↓reduceIte, ↓zLet_eq, ↓zRd_ok, ↓zWr_ok, ↓zC_V, ↓zC_I, ↓zC_J, zUp_at, zUp_ne, q_up_at, q_up_ne, w32_of, w64_of, q_le_T, q_le_F, q_lt_T, q_lt_F, q_eq_T, q_eq_F, true_or, or_true, or_false, false_or, false_and, and_false]
      · simp (disch := omega) only [Int.add_zero, Int.mul_zero, Int.reduceMul, Int.reduceAdd, Int.mul_one, Int.tdiv_eq_ediv_of_nonneg, Int.tmod_eq_emod_of_nonneg, ↓reduceIte, ↓zLet_eq, ↓zRd_ok, ↓zWr_ok, ↓zC_V, ↓zC_I, ↓zC_J, zUp_at, zUp_ne, q_up_at, q_up_ne, w32_of, w64_of, q_le_T, q_le_F, q_lt_T, q_lt_F, q_eq_T, q_eq_F, true_or, or_true, or_false, false_or, false_and, and_false, k11]
    · unfold F_Model_without J_Model_without_22
      simp (disch := omega) only [Int.add_zero, Int.mul_zero, Int.reduceMul, Int.reduceAdd, Int.mul_one, Int.tdiv_eq_ediv_of_nonneg, Int.tmod_eq_emod_of_nonneg, ↓reduceIte, ↓zLet_eq, ↓zRd_ok, ↓zWr_ok, ↓zC_V, ↓zC_I, ↓zC_J, zUp_at, zUp_ne, q_up_at, q_up_ne, w32_of, w64_of, q_le_T, q_le_F, q_lt_T, q_lt_F, q_eq_T, q_eq_F, true_or, or_true, or_false, false_or, false_and, and_false, z_isInN]
/-- both go on without one act after another -/
theorem z_wo_step {μ0 : ZMem} {k : Int} (C : c_at m dl a (μ0 2) (μ0 4) (μ0 3) (μ0 8) κ) (kp : m_kp μ0 μ) (M : m_at m dl a μ) (k0 : 0 ≤ k) (k1 : k < 100) : ∃ κ' μ', F_Ledger_netTakenWithout k κ = some (.inr (some (zJ (q_wk m dl (μ0 2) (μ0 4) (μ0 3) (μ0 8) a k))), κ') ∧ c_fr κ κ' ∧ F_Model_keptWithout k μ = some (.inr (some (zJ (q_wk m dl (μ0 2) (μ0 4) (μ0 3) (μ0 8) a k))), μ') ∧ m_kp μ0 μ' ∧ m_at m dl a μ' := by
  obtain ⟨-, t2, t3, t4, t8, -, -, -⟩ := kp.at
  have hf := M.1.2.2.1
  have hj := M.2.2.1
  obtain ⟨μ1, r1, kp1, at1⟩ := m_keptWithout (k := k) M.1 M.2.1 hj k0 k1
  rw [t2, t3, t4] at hf
  rw [t2, t3, t4, t8] at hj r1
  obtain ⟨κ1, e1, fr1⟩ := k_without (k := k) C hf hj k0 k1
  exact ⟨κ1, μ1, e1, fr1, r1, kp.tr kp1, at1⟩
theorem face_idle (h : z_rest m dl a κ μ) : z_face [] m dl a κ μ (F_Ledger_idle κ) (F_Model_idle μ) := by
  obtain ⟨hf, h6, hdl, ht, ⟨m5, m6, m11, ha⟩, ⟨k3, k4, k11⟩, hi, hq, hs⟩ := h.all
  obtain ⟨M, C⟩ := h
  have hb : b_bk dl (μ 2) (μ 5) (zVw plNB κ) := hs.1.1
  have w2 : zUp μ 0 0 0 2 = μ 2 := zUp_ne (by decide)
  have w3 : zUp μ 0 0 0 3 = μ 3 := zUp_ne (by decide)
  have w4 : zUp μ 0 0 0 4 = μ 4 := zUp_ne (by decide)
  have w5 : zUp μ 0 0 0 5 = μ 5 := zUp_ne (by decide)
  have w8 : zUp μ 0 0 0 8 = μ 8 := zUp_ne (by decide)
  have hk := m_keeps (μ := zUp μ 0 0 0)
  rw [w5] at hk
  generalize hc : μ 5 86 - μ 5 89 = cc at *
  have key : ∀ (i j : Nat), j + i = a → ∀ (fu fu' : Nat) (κ1 μ1 : ZMem), i < fu → i < fu' → c_fr κ κ1 → m_kp (zUp μ 0 0 0) μ1 → m_at m dl a μ1 → ∃ κ2 μ2 r, L_Ledger_idle_16 cc (fun k8 μ7 => some (.inr (some (zI k8)), μ7)) fu (q_id (q_wk m dl (μ 2) (μ 4) (μ 3) (μ 8) a) cc j) j κ1 = some (.inr (some (zI r)), κ2) ∧ L_Model_idle_15 cc (fun k9 μ8 => some (.inr (some (zI k9)), μ8)) fu' (q_id (q_wk m dl (μ 2) (μ 4) (μ 3) (μ 8) a) cc j) j μ1 = some (.inr (some (zI r)), μ2) ∧ c_fr κ κ2 ∧ m_kp (zUp μ 0 0 0) μ2 ∧ m_at m dl a μ2 := by
    intro i
    induction i with
    | zero =>
      intro j hji fu fu' κ1 μ1 h1 h2 fr kp at1
      obtain ⟨fu, rfl⟩ : ∃ g, fu = g + 1 := ⟨fu - 1, by omega⟩
      obtain ⟨fu', rfl⟩ : ∃ g, fu' = g + 1 := ⟨fu' - 1, by omega⟩
      obtain rfl : j = a := by omega
      refine ⟨κ1, μ1, q_id (q_wk m dl (μ 2) (μ 4) (μ 3) (μ 8) j) cc j, ?_, ?_, fr, kp, at1⟩
      · rw [L_Ledger_idle_16, fr.1 11 (by decide), k11, if_pos (Int.le_refl _)]
      · rw [L_Model_idle_15, at1.2.1, if_pos (Int.le_refl _)]
    | succ i ih =>
      intro j hji fu fu' κ1 μ1 h1 h2 fr kp at1
      obtain ⟨fu, rfl⟩ : ∃ g, fu = g + 1 := ⟨fu - 1, by omega⟩
      obtain ⟨fu', rfl⟩ : ∃ g, fu' = g + 1 := ⟨fu' - 1, by omega⟩
      obtain ⟨κ2, μ2, e1, fr2, e2, kp2, at2⟩ := z_wo_step (μ0 := zUp μ 0 0 0) (k := j) (by rw [w2, w3, w4, w8]; exact C.fr fr) kp at1 (by omega) (by omega)
      rw [w2, w3, w4, w8] at e1 e2
      obtain ⟨κ3, μ3, r, g1, g2, g3⟩ := ih (j + 1) (by omega) fu fu' κ2 μ2 (by omega) (by omega) (fr.tr fr2) kp2 at2
      refine ⟨κ3, μ3, r, ?_, ?_, g3⟩
      · rw [L_Ledger_idle_16, fr.1 11 (by decide), k11, w32_of (by omega) (by omega), w32_of (by omega) (by omega), if_neg (by omega), e1, zC_J, ← g1, q_id]
        unfold J_Ledger_idle_42
        by_cases hw : w64 (q_wk m dl (μ 2) (μ 4) (μ 3) (μ 8) a j) = w64 cc
        · rw [if_pos hw, if_pos hw, zLet_eq, zLet_eq]
          rfl
        · rw [if_neg hw, if_neg hw, zLet_eq]
          rfl
      · rw [L_Model_idle_15, at1.2.1, w32_of (by omega) (by omega), w32_of (by omega) (by omega), if_neg (by omega), e2, zC_J, ← g2, q_id]
        unfold J_Model_idle_41
        by_cases hw : w64 (q_wk m dl (μ 2) (μ 4) (μ 3) (μ 8) a j) = w64 cc
        · rw [if_pos hw, if_pos hw, zLet_eq, zLet_eq]
          rfl
        · rw [if_neg hw, if_neg hw, zLet_eq, zLet_eq, Int.add_zero]
          rfl
  obtain ⟨κ2, μ2, r, g1, g2, fr, kp, at2⟩ := key a 0 (by omega) zN zN κ (zUp μ 0 0 0) (zN_gt (by omega)) (zN_gt (by omega)) (c_fr.rf κ) (m_kp.rf _) (M.up0 0)
  obtain ⟨hfr, h00⟩ := kp.fr0
  refine z_face.ok (v := zI r) (κ' := κ2) (μ' := μ2) ?_ ?_ fr hfr at2 h00
  · unfold F_Ledger_idle
    rw [b_netTaken hb, zCm_J, zMg_vw, hc]
    exact g1
  · unfold F_Model_idle
    rw [zLet_eq, hk, zC_J]
    exact g2
theorem face_blame (h : z_rest m dl a κ μ) : z_face [] m dl a κ μ (F_Ledger_blame κ) (F_Model_blame μ) := by
  obtain ⟨hf, h6, hdl, ht, ⟨m5, m6, m11, ha⟩, ⟨k3, k4, k11⟩, hi, hq, hs⟩ := h.all
  obtain ⟨M, C⟩ := h
  have w2 : zUp μ 0 0 0 2 = μ 2 := zUp_ne (by decide)
  have w3 : zUp μ 0 0 0 3 = μ 3 := zUp_ne (by decide)
  have w4 : zUp μ 0 0 0 4 = μ 4 := zUp_ne (by decide)
  have w8 : zUp μ 0 0 0 8 = μ 8 := zUp_ne (by decide)
  have key : ∀ (i j : Nat), j + i = a → ∀ (fu fu' : Nat) (κ1 μ1 : ZMem), i < fu → i < fu' → c_fr κ κ1 → m_kp (zUp μ 0 0 0) μ1 → m_at m dl a μ1 → ∃ κ2 μ2 r, L_Ledger_blame_7 (fun k5 μ4 => some (.inr (some (zI k5)), μ4)) fu (q_bl (q_wk m dl (μ 2) (μ 4) (μ 3) (μ 8) a) j).1 (q_bl (q_wk m dl (μ 2) (μ 4) (μ 3) (μ 8) a) j).2 j κ1 = some (.inr (some (zI r)), κ2) ∧ L_Model_blame_12 (fun k6 μ5 => some (.inr (some (zI k6)), μ5)) fu' (q_bl (q_wk m dl (μ 2) (μ 4) (μ 3) (μ 8) a) j).1 (q_bl (q_wk m dl (μ 2) (μ 4) (μ 3) (μ 8) a) j).2 j μ1 = some (.inr (some (zI r)), μ2) ∧ c_fr κ κ2 ∧ m_kp (zUp μ 0 0 0) μ2 ∧ m_at m dl a μ2 := by
    intro i
    induction i with
    | zero =>
      intro j hji fu fu' κ1 μ1 h1 h2 fr kp at1
      obtain ⟨fu, rfl⟩ : ∃ g, fu = g + 1 := ⟨fu - 1, by omega⟩
      obtain ⟨fu', rfl⟩ : ∃ g, fu' = g + 1 := ⟨fu' - 1, by omega⟩
      obtain rfl : j = a := by omega
      refine ⟨κ1, μ1, (q_bl (q_wk m dl (μ 2) (μ 4) (μ 3) (μ 8) j) j).1, ?_, ?_, fr, kp, at1⟩
      · rw [L_Ledger_blame_7, fr.1 11 (by decide), k11, if_pos (Int.le_refl _)]
      · rw [L_Model_blame_12, at1.2.1, if_pos (Int.le_refl _)]
    | succ i ih =>
      intro j hji fu fu' κ1 μ1 h1 h2 fr kp at1
      obtain ⟨fu, rfl⟩ : ∃ g, fu = g + 1 := ⟨fu - 1, by omega⟩
      obtain ⟨fu', rfl⟩ : ∃ g, fu' = g + 1 := ⟨fu' - 1, by omega⟩
      obtain ⟨κ2, μ2, e1, fr2, e2, kp2, at2⟩ := z_wo_step (μ0 := zUp μ 0 0 0) (k := j) (by rw [w2, w3, w4, w8]; exact C.fr fr) kp at1 (by omega) (by omega)
      rw [w2, w3, w4, w8] at e1 e2
      obtain ⟨κ3, μ3, r, g1, g2, g3⟩ := ih (j + 1) (by omega) fu fu' κ2 μ2 (by omega) (by omega) (fr.tr fr2) kp2 at2
      have bb := q_bl_in (q_wk m dl (μ 2) (μ 4) (μ 3) (μ 8) a) j
      have wm : w32 (-1) = -1 := w32_of (by decide) (by decide)
      have wb : w32 (q_bl (q_wk m dl (μ 2) (μ 4) (μ 3) (μ 8) a) j).1 = (q_bl (q_wk m dl (μ 2) (μ 4) (μ 3) (μ 8) a) j).1 := w32_of (by omega) (by omega)
      refine ⟨κ3, μ3, r, ?_, ?_, g3⟩
      · rw [L_Ledger_blame_7, fr.1 11 (by decide), k11, w32_of (a := (a : Int)) (by omega) (by omega), w32_of (a := (j : Int)) (by omega) (by omega), if_neg (by omega), e1, zC_J, ← g1, q_bl, wm, wb]
        unfold J_Ledger_blame_39 J_Ledger_blame_45
        by_cases hz : (q_bl (q_wk m dl (μ 2) (μ 4) (μ 3) (μ 8) a) j).1 = -1
        · rw [if_pos hz, if_pos hz, zLet_eq]
          rfl
        · rw [if_neg hz, if_neg hz]
          by_cases hw : w64 (q_wk m dl (μ 2) (μ 4) (μ 3) (μ 8) a j) ≤ w64 (q_bl (q_wk m dl (μ 2) (μ 4) (μ 3) (μ 8) a) j).2
          · rw [if_pos hw, if_pos hw, zLet_eq]
            rfl
          · rw [if_neg hw, if_neg hw, zLet_eq]
            rfl
      · rw [L_Model_blame_12, at1.2.1, w32_of (a := (a : Int)) (by omega) (by omega), w32_of (a := (j : Int)) (by omega) (by omega), if_neg (by omega), e2, zC_J, ← g2, q_bl, wm, wb]
        unfold J_Model_blame_44 J_Model_blame_50
        by_cases hz : (q_bl (q_wk m dl (μ 2) (μ 4) (μ 3) (μ 8) a) j).1 = -1
        · rw [if_pos hz, if_pos hz, zLet_eq]
          rfl
        · rw [if_neg hz, if_neg hz]
          by_cases hw : w64 (q_wk m dl (μ 2) (μ 4) (μ 3) (μ 8) a j) ≤ w64 (q_bl (q_wk m dl (μ 2) (μ 4) (μ 3) (μ 8) a) j).2
          · rw [if_neg (by omega), if_pos hw, zLet_eq]
            rfl
          · rw [if_pos (by omega), if_neg hw, zLet_eq]
            rfl
  obtain ⟨κ2, μ2, r, g1, g2, fr, kp, at2⟩ := key a 0 (by omega) zN zN κ (zUp μ 0 0 0) (zN_gt (by omega)) (zN_gt (by omega)) (c_fr.rf κ) (m_kp.rf _) (M.up0 0)
  obtain ⟨hfr, h00⟩ := kp.fr0
  refine z_face.ok (v := zI r) (κ' := κ2) (μ' := μ2) ?_ ?_ fr hfr at2 h00
  · unfold F_Ledger_blame
    exact g1
  · unfold F_Model_blame
    rw [zLet_eq]
    exact g2
end FU
