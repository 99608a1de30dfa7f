/-! ===== faces: most, swapped ===== -/
def q_ow (s : Int → Int) : Int := s (54 + 4 * 0) + s (54 + 4 * 0 + 1)
def q_mo (o : Nat → Int) : Nat → Int
  | 0 => 0
  | j + 1 => q_max (q_mo o j) (o j)
theorem q_mo_in {o : Nat → Int} : ∀ j : Nat, (∀ i, i < j → 0 ≤ o i ∧ o i ≤ 2000000000000) → 0 ≤ q_mo o j ∧ q_mo o j ≤ 2000000000000
  | 0, _ => by rw [q_mo]; omega
  | j + 1, h => by
    have i := q_mo_in j (fun i hi => h i (by omega))
    have := h j (by omega)
    rw [q_mo]
    unfold q_max
    split <;> omega
section FV
variable {m dl a : Nat} {B d sum : Int} {tm ex pr J s s' : Int → Int} {σ : QS} {κ μ ν : ZMem} {x y z : Int}
theorem q_ow_in (hi : q_inv m dl B s) (hB0 : 0 ≤ B) (hB1 : B ≤ 900) : 0 ≤ q_ow s ∧ q_ow s ≤ 2000000000000 := by
  obtain ⟨x0, x1, -, -⟩ := q_lbd (l := 0) hi hB0 hB1 (by decide) (by decide)
  unfold q_ow
  omega
theorem face_most (h : z_rest m dl a κ μ) : z_face [] m dl a κ μ (F_Ledger_most κ) (F_Model_most μ) := by
  obtain ⟨hf, h6, hdl, ht, ⟨m5, m6, m11, ha⟩, ⟨k3, k4, k11⟩, hi, hq, hs⟩ := h.all
  obtain ⟨M, C⟩ := h
  have hj := M.2.2.1
  have hJ : j_rw (μ 8) a (κ 12) := C.2.1.2.1
  have ob : ∀ i : Nat, i ≤ a → 0 ≤ q_ow (q_run m (μ 2) (μ 4) (μ 3) (μ 8) i).1 ∧ q_ow (q_run m (μ 2) (μ 4) (μ 3) (μ 8) i).1 ≤ 2000000000000 := fun i hi' => by
    obtain ⟨g1, g2, g3, g4, g5⟩ := q_run_B (k := i) hf hj hi'
    exact q_ow_in g1 g2 (by omega)
  have mb : ∀ j : Nat, j ≤ a + 1 → 0 ≤ q_mo (fun i => q_ow (q_run m (μ 2) (μ 4) (μ 3) (μ 8) i).1) j ∧ q_mo (fun i => q_ow (q_run m (μ 2) (μ 4) (μ 3) (μ 8) i).1) j ≤ 2000000000000 := fun j hj' => q_mo_in j (fun i hi' => ob i (by omega))
  -- the class
  obtain ⟨κ1, c1, s1, f1⟩ := k_open C h6
  have st1 := b_standing (a := 6) (l := 0) (ν := zVw plUB κ1) s1.1.1 (Or.inl (Or.inl ⟨rfl, rfl⟩))
  have e0 : q_mo (fun i => q_ow (q_run m (μ 2) (μ 4) (μ 3) (μ 8) i).1) (0 + 1) = q_ow (q_0 m (μ 3)).1 := by
    rw [q_mo, q_mo]
    unfold q_max
    exact if_pos (ob 0 (by omega)).1
  obtain ⟨⟨v, w, κ2⟩, e, j, hw, hjj, hv, hs2, f2⟩ := q_loop (L := fun f (b : Int × Int × ZMem) => L_Ledger_most_26 (fun k12 μ11 => some (.inr (some (zJ k12)), μ11)) f b.1 b.2.1 b.2.2) (P := fun i b => ∃ j : Nat, b.2.1 = j ∧ j + i = a ∧ b.1 = q_mo (fun i => q_ow (q_run m (μ 2) (μ 4) (μ 3) (μ 8) i).1) (j + 1) ∧ s_U m dl (μ 2) (μ 4) (q_run m (μ 2) (μ 4) (μ 3) (μ 8) j) (zVw plU b.2.2) ∧ (∀ c, c < 32 ∨ 51 ≤ c → b.2.2 c = κ c)) (fun f i b hb => by
      obtain ⟨v, w, κ2⟩ := b
      obtain ⟨j, hw, hjj, hv, hs2, f2⟩ := hb
      simp only [] at hw hv hs2 f2 ⊢
      subst hw
      subst hv
      have e11 : κ2 11 1 = a := by rw [f2 11 (by decide)]; exact k11
      obtain ⟨hi', b0, b1, -⟩ := q_run_B (k := j) hf hj (by omega)
      obtain ⟨κ3, r, hs3, f3⟩ := k_follow (k := j) (a := a) (J := μ 8) hs2 hi' hf b0 b1 (by rw [f2 12 (by decide)]; exact hJ) (by omega) ha (hj.2 j (by omega)).1
      rw [q_run_step hf hj (by omega)] at hs3
      have st := b_standing (a := 6) (l := 0) (ν := zVw plUB κ3) hs3.1.1 (Or.inl (Or.inl ⟨rfl, rfl⟩))
      have o1 := ob (j + 1) (by omega)
      have o2 := mb (j + 1) (by omega)
      refine ⟨(q_mo (fun i => q_ow (q_run m (μ 2) (μ 4) (μ 3) (μ 8) i).1) (j + 1 + 1), (j : Int) + 1, κ3), ?_, j + 1, rfl, by omega, rfl, hs3, fun c hc => (f3 c hc).trans (f2 c hc)⟩
      rw [L_Ledger_most_26, e11, w32_of (by omega) (by omega), w32_of (by omega) (by omega), if_neg (by omega), r, st, zCm_J, zMg_vw, zLet_eq, zLet_eq]
      rw [show (q_run m (μ 2) (μ 4) (μ 3) (μ 8) (j + 1)).1 (54 + 4 * 0) + (q_run m (μ 2) (μ 4) (μ 3) (μ 8) (j + 1)).1 (54 + 4 * 0 + 1) = q_ow (q_run m (μ 2) (μ 4) (μ 3) (μ 8) (j + 1)).1 from rfl, zmaxJ_eq (by omega) (by omega) (by omega) (by omega)]
      rfl) a zN (q_ow (q_0 m (μ 3)).1, 0, κ1) ⟨0, rfl, by omega, e0.symm, s1, f1⟩ (Nat.le_of_lt (zN_gt (by omega)))
  simp only [] at e hw hv hs2 f2
  obtain rfl : j = a := by omega
  have hcf : c_fr κ κ2 := c_fr.trial C hs2.2 f2
  have eC : F_Ledger_most κ = some (.inr (some (zJ (q_mo (fun i => q_ow (q_run m (μ 2) (μ 4) (μ 3) (μ 8) i).1) (j + 1)))), κ2) := by
    unfold F_Ledger_most
    rw [c1, st1, zCm_J, zMg_vw]
    refine Eq.trans e ?_
    rw [hw, hv]
    obtain ⟨f, hfu⟩ : ∃ f, zN - j = f + 1 := ⟨zN - j - 1, by have := zN_gt (m := j) (by omega); omega⟩
    rw [hfu, L_Ledger_most_26, f2 11 (by decide), k11, if_pos (Int.le_refl _)]
  -- the reference
  have w2 : zUp μ 0 0 0 2 = μ 2 := zUp_ne (by decide)
  have w3 : zUp μ 0 0 0 3 = μ 3 := zUp_ne (by decide)
  have w4 : zUp μ 0 0 0 4 = μ 4 := zUp_ne (by decide)
  have w8 : zUp μ 0 0 0 8 = μ 8 := zUp_ne (by decide)
  have M0 := M.up0 0
  obtain ⟨⟨u, w', μ2⟩, em, k, hw', hkk, hu, kp, cf⟩ := q_loop (L := fun f (b : Int × Int × ZMem) => L_Model_most_9 (fun k10 μ9 => zC (F_Model_worksOut μ9) (zkV (fun μ11 => some (.inr (some (zJ k10)), μ11))) zX0) f b.1 b.2.1 b.2.2) (P := fun i b => ∃ k : Nat, b.2.1 = k ∧ k + i = j + 1 ∧ b.1 = q_mo (fun i => q_ow (q_run m (μ 2) (μ 4) (μ 3) (μ 8) i).1) k ∧ m_kp (zUp μ 0 0 0) b.2.2 ∧ m_cf m dl b.2.2) (fun f i b hb => by
      obtain ⟨u, w', μ2⟩ := b
      obtain ⟨k, hw', hkk, hu, kp, cf⟩ := hb
      simp only [] at hw' hu kp cf ⊢
      subst hw'
      subst hu
      obtain ⟨-, t2, t3, t4, t8, t05, t06, t11⟩ := kp.at
      obtain ⟨μ3, r3, kp3, cf3, hσ⟩ := m_worksOutTo (a := j) (μ := μ2) (b := k) cf (by rw [t2, t3, t4, t8]; exact M0.2.2.1) (by omega)
      rw [t2, t3, t4, t8, w2, w3, w4, w8] at hσ
      obtain ⟨-, p5, -, -⟩ := q_pair hσ
      have ow := m_owes (μ := μ3) (l := 0) (by decide) (by decide)
      rw [p5] at ow
      have o1 := ob k (by omega)
      have o2 := mb k (by omega)
      refine ⟨(q_mo (fun i => q_ow (q_run m (μ 2) (μ 4) (μ 3) (μ 8) i).1) (k + 1), (k : Int) + 1, μ3), ?_, k + 1, rfl, by omega, rfl, kp.tr kp3, cf3⟩
      have e11 : μ2 0 11 = j := t11.trans M0.2.1
      rw [L_Model_most_9, e11, w32_of (by omega) (by omega), w32_of (by omega) (by omega), if_neg (by omega), r3, zC_V, ow, zC_J]
      rw [show (q_run m (μ 2) (μ 4) (μ 3) (μ 8) k).1 (54 + 4 * 0) + (q_run m (μ 2) (μ 4) (μ 3) (μ 8) k).1 (54 + 4 * 0 + 1) = q_ow (q_run m (μ 2) (μ 4) (μ 3) (μ 8) k).1 from rfl, m_greater (by omega) (by omega) (by omega) (by omega), zC_J, zLet_eq]
      rfl) (j + 1) zN (0, 0, zUp μ 0 0 0) ⟨0, rfl, by omega, rfl, m_kp.rf _, M0.1⟩ (Nat.le_of_lt (zN_gt (by omega)))
  simp only [] at em hw' hu kp cf
  obtain rfl : k = j + 1 := by omega
  obtain ⟨-, t2, t3, t4, t8, t05, t06, t11⟩ := kp.at
  obtain ⟨μ4, r4, kp4, at4⟩ := m_worksOutS (a := j) cf (t11.trans M0.2.1) (by rw [t2, t4, t3, t8]; exact M0.2.2.1)
  obtain ⟨hfr, h00⟩ := (kp.tr kp4).fr0
  refine z_face.ok (v := zJ (q_mo (fun i => q_ow (q_run m (μ 2) (μ 4) (μ 3) (μ 8) i).1) (j + 1))) (κ' := κ2) (μ' := μ4) eC ?_ hcf hfr at4 h00
  unfold F_Model_most
  rw [zLet_eq]
  refine Eq.trans em ?_
  rw [hw', hu]
  obtain ⟨f, hfu⟩ : ∃ f, zN - (j + 1) = f + 1 := ⟨zN - (j + 1) - 1, by have := zN_gt (m := j + 1) (by omega); omega⟩
  have e11 : μ2 0 11 = j := t11.trans M0.2.1
  rw [hfu, L_Model_most_9, e11, w32_of (by omega) (by omega), w32_of (by omega) (by omega), if_pos (by omega), r4, zC_V]
end FV
