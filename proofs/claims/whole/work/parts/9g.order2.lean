/-! ===== order: the reference ===== -/
def o_ps (tm s : Int → Int) (p : Int → Int) : Nat → (Int → Int)
  | 0 => s
  | k + 1 => q_sb tm (p k) (o_ps tm s p k (30 + 4 * p k + 2)) 1 (o_ps tm s p k)
theorem o_ps_congr {tm s p p' : Int → Int} : ∀ n : Nat, (∀ i : Int, 0 ≤ i → i < n → p' i = p i) → o_ps tm s p' n = o_ps tm s p n
  | 0, _ => rfl
  | n + 1, h => by
    rw [o_ps, o_ps, o_ps_congr n (fun i i0 i1 => h i i0 (by omega)), h n (by omega) (by omega)]
def o_B (m dl L : Nat) (B : Int) (μ : ZMem) : Prop := μ 0 5 = m ∧ μ 0 6 = dl ∧ μ 0 14 = 60 ∧ μ 0 39 = L ∧ q_inv m dl B (μ 5) ∧ q_z 1206 (μ 6) ∧ q_z 1206 (μ 7) ∧ (∀ k, 0 ≤ k → k < 92 → μ 11 k = μ 5 k) ∧ (∀ k, 0 ≤ k → k < 1206 → μ 12 k = μ 6 k ∧ μ 13 k = μ 7 k) ∧ q_tm (μ 2)
def o_A (L : Nat) (A : OA) (μ : ZMem) : Prop := μ 0 40 = A.1 ∧ (∀ i : Int, 0 ≤ i → i < L → μ 24 i = A.2 i) ∧ -1 ≤ A.1 ∧ A.1 ≤ 1000000000
def o_gf (j : Int) (μ μ' : ZMem) : Prop := (∀ c, c ≠ 0 → c ≠ 9 → c ≠ 10 → c ≠ 19 → c ≠ 20 → c ≠ 21 → c ≠ 22 → c ≠ 23 → c ≠ 24 → μ' c = μ c) ∧ (∀ k, k ≠ 35 → k ≠ 36 → k ≠ 40 → μ' 0 k = μ 0 k) ∧ (∀ k, k ≠ 60 → μ' 9 k = μ 9 k ∧ μ' 10 k = μ 10 k) ∧ (∀ i, i < j → μ' 23 i = μ 23 i)
theorem o_gf.rf (j : Int) (μ : ZMem) : o_gf j μ μ := ⟨fun _ _ _ _ _ _ _ _ _ _ => rfl, fun _ _ _ _ => rfl, fun _ _ => ⟨rfl, rfl⟩, fun _ _ => rfl⟩
theorem o_gf.tr {j : Int} {a b c : ZMem} (h1 : o_gf j a b) (h2 : o_gf j b c) : o_gf j a c := ⟨fun x e0 e1 e2 e3 e4 e5 e6 e7 e8 => (h2.1 x e0 e1 e2 e3 e4 e5 e6 e7 e8).trans (h1.1 x e0 e1 e2 e3 e4 e5 e6 e7 e8), fun k a b c => (h2.2.1 k a b c).trans (h1.2.1 k a b c), fun k hk => ⟨(h2.2.2.1 k hk).1.trans (h1.2.2.1 k hk).1, (h2.2.2.1 k hk).2.trans (h1.2.2.1 k hk).2⟩, fun i hi => (h2.2.2.2 i hi).trans (h1.2.2.2 i hi)⟩
theorem o_gf.c {j : Int} {μ μ' : ZMem} (h : o_gf j μ μ') {c : Nat} (hc : (1 ≤ c ∧ c ≤ 8) ∨ (11 ≤ c ∧ c ≤ 18)) : μ' c = μ c := h.1 c (by omega) (by omega) (by omega) (by omega) (by omega) (by omega) (by omega) (by omega) (by omega)
theorem o_B.gf {m dl L : Nat} {B j : Int} {μ μ' : ZMem} (h : o_B m dl L B μ) (f : o_gf j μ μ') : o_B m dl L B μ' := by
  unfold o_B
  rw [f.c (c := 2) (by decide), f.c (c := 5) (by decide), f.c (c := 6) (by decide), f.c (c := 7) (by decide), f.c (c := 11) (by decide), f.c (c := 12) (by decide), f.c (c := 13) (by decide), f.2.1 5 (by decide) (by decide) (by decide), f.2.1 6 (by decide) (by decide) (by decide), f.2.1 14 (by decide) (by decide) (by decide), f.2.1 39 (by decide) (by decide) (by decide)]
  exact h
theorem o_row {m dl L : Nat} {B : Int} {p : Int → Int} {A : OA} {μ : ZMem} (h6 : m ≤ 6) (hdl : dl ≤ 6) (hL6 : L ≤ 6) (hB0 : 0 ≤ B) (hB1 : B ≤ 764) (c : o_B m dl L B μ) (hp : ∀ i : Int, 0 ≤ i → i < L → μ 23 i = p i ∧ 0 ≤ p i ∧ p i < dl) (hA : o_A L A μ) :
    ∃ μ', F_Model_triesRow μ = some (.inr none, μ') ∧ o_gf L μ μ' ∧ o_A L (o_lf p (o_ps (μ 2) (μ 5) p L 86) A) μ' := by
  obtain ⟨c5, c6, c14, c39, hi, z6, z7, c11, c12, ht⟩ := c
  obtain ⟨a1, a2, a3, a4⟩ := hA
  unfold F_Model_triesRow
  generalize hK : (fun μ9 : ZMem => zRd μ9 5 92 86 (fun x10 => zC (F_Model_comesBack μ9) (zkV (fun μ11 => if w64 (μ11 0 40) < w64 x10 then (zLet (zUp μ11 0 40 x10) (fun μ13 => L_Model_triesRow_71 (fun μ17 => some (.inr none, μ17)) zN 0 μ13)) else (some (.inr none, μ11)))) zX0)) = K
  obtain ⟨⟨v, ν⟩, e, i, hv, hii, kp, h14, hs, hi', y6, y7, h9⟩ := q_loop (L := fun n (b : Int × ZMem) => L_Model_triesRow_2 K n b.1 b.2) (P := fun k b => ∃ i : Nat, b.1 = i ∧ i + k = L ∧ m_kp μ b.2 ∧ b.2 0 14 = 60 ∧ (∀ k, 30 ≤ k → b.2 5 k = o_ps (μ 2) (μ 5) p i k) ∧ q_inv m dl (B + 6 * i) (b.2 5) ∧ q_z 1206 (b.2 6) ∧ q_z 1206 (b.2 7) ∧ (∀ k, k ≠ 60 → b.2 9 k = μ 9 k ∧ b.2 10 k = μ 10 k)) (fun n k b hb => by
      obtain ⟨v, ν⟩ := b
      obtain ⟨i, rfl, hii, kp, h14, hs, hi', y6, y7, h9⟩ := hb
      simp only [] at kp h14 hs hi' y6 y7 h9 ⊢
      obtain ⟨-, e2, e3, e4, e8, e5, e6, e11⟩ := kp.at
      have e39 : ν 0 39 = L := (kp.2 39 (by decide) (by decide) (by decide)).trans c39
      have e23 : ν 23 = μ 23 := kp.1 23 (by decide) (by decide) (by decide) (by decide) (by decide) (by decide) (by decide) (by decide) (by decide) (by decide)
      obtain ⟨p1, p2, p3⟩ := hp i (by omega) (by omega)
      have er : ν 23 i = p i := by rw [e23]; exact p1
      have hD := hi'.2.1 (p i).toNat (by omega)
      rw [Int.toNat_of_nonneg p2] at hD
      obtain ⟨ν', r, kp', h14', hs', g9, g10⟩ := m_sells (μ := ν) (d := p i) (sum := ν 5 (30 + 4 * p i + 2)) (last := 1) (fun _ => 0) (e5.trans c5) h6 hdl p2 p3 hi' (by omega) (by omega) (by rw [e2]; exact ht) (by omega) (by omega) (by omega) (by omega) (Or.inr rfl)
      obtain ⟨t1, t2, t3, t4⟩ := q_pair hs'
      obtain ⟨j1, j2⟩ := q_inv.sell (tm := ν 2) (ex := ν 4) (d := p i) (last := 1) (sum := ν 5 (30 + 4 * p i + 2)) (σ := (ν 5, ν 6, ν 7, fun _ => 0)) hi' h6 hdl (by rw [e2]; exact ht) (by omega) (by omega) p2 p3 (by omega) (by omega)
      have zz : q_zz (q_sell m (ν 2) (ν 4) (p i) (ν 5 (30 + 4 * p i + 2)) 1 (ν 5, ν 6, ν 7, fun _ => 0)) := q_zz.get (σ := (q_sb (ν 2) (p i) (ν 5 (30 + 4 * p i + 2)) 1 (ν 5), ν 6, ν 7, fun _ => 0)) ⟨y6, y7⟩ h6
      refine ⟨(i + 1, ν'), ?_, i + 1, rfl, by omega, kp.tr kp', h14'.trans h14, fun q hq => ?_, ?_, ?_, ?_, fun q hq => ?_⟩
      · simp (disch := omega) only [L_Model_triesRow_2, Int.add_zero, Int.mul_zero, Int.reduceMul, Int.reduceAdd, Int.mul_one, Int.tdiv_eq_ediv_of_nonneg, Int.tmod_eq_emod_of_nonneg, ↓reduceIte, ↓zLet_eq, ↓zRd_ok, ↓zWr_ok, ↓zC_V, ↓zC_I, ↓zC_J, zUp_at, zUp_ne, q_up_at, q_up_ne, w32_of, w64_of, q_le_T, q_le_F, q_lt_T, q_lt_F, q_eq_T, q_eq_F, true_or, or_true, or_false, false_or, false_and, and_false, e39, er, m_dealAt, r]
      · simp only []
        rw [t2, q_sell_hi (s := o_ps (μ 2) (μ 5) p i) h6 hs p2 q hq, o_ps, hs _ (by omega), e2]
      · simp only []
        rw [t2]
        exact j1.mono h6 (by omega)
      · simp only []
        rw [t3]; exact zz.1
      · simp only []
        rw [t4]; exact zz.2
      · simp only []
        rw [g9, g10, h14, q_up_ne hq, q_up_ne hq]
        exact h9 q hq) L zN (0, μ) ⟨0, rfl, by omega, m_kp.rf μ, c14, fun _ _ => rfl, hi.mono h6 (by omega), z6, z7, fun _ _ => ⟨rfl, rfl⟩⟩ (Nat.le_of_lt (zN_gt (by omega)))
  simp only [] at e hv kp h14 hs hi' y6 y7 h9
  obtain rfl : i = L := by omega
  have e39 : ν 0 39 = i := (kp.2 39 (by decide) (by decide) (by decide)).trans c39
  have hP := hi'.2.2.2.1
  have e86 := hs 86 (by decide)
  have v86 : 0 ≤ ν 5 86 ∧ ν 5 86 ≤ 100000 * (B + 6 * (i : Int)) := hP.1
  rw [e86] at v86
  have kc : ∀ c, 11 ≤ c → c ≤ 18 ∨ 23 ≤ c → ν c = μ c := fun c c0 c1 => kp.1 c (by omega) (by omega) (by omega) (by omega) (by omega) (by omega) (by omega) (by omega) (by omega) (by omega)
  obtain ⟨μ6, r6, f6, g5, g6, g7⟩ := m_comesBack (μ := ν) (s := μ 5) (p := μ 6) (g := μ 7) (fun k k0 k1 => by rw [kc 11 (by decide) (by decide)]; exact c11 k k0 k1) (fun k k0 k1 => by rw [kc 12 (by decide) (by decide), kc 13 (by decide) (by decide)]; exact c12 k k0 k1) hi'.2.2.2.2 y6 y7 hi.2.2.2.2 z6 z7
  have e40 : μ6 0 40 = A.1 := by rw [f6 0 (by decide) (by decide) (by decide), kp.2 40 (by decide) (by decide) (by decide)]; exact a1
  have fr : o_gf i μ μ6 := by
    refine ⟨fun c e0 e9 e10 e19 e20 e21 e22 e23 e24 => ?_, fun k k1 k2 k3 => ?_, fun k hk => ?_, fun q hq => ?_⟩
    · by_cases h5 : c = 5
      · rw [h5]; exact g5
      · by_cases h6 : c = 6
        · rw [h6]; exact g6
        · by_cases h7 : c = 7
          · rw [h7]; exact g7
          · rw [f6 c h5 h6 h7, kp.1 c e0 h5 h6 h7 e9 e10 e19 e20 e21 e22]
    · rw [f6 0 (by decide) (by decide) (by decide)]
      by_cases hk : k = 14
      · rw [hk, h14, c14]
      · exact kp.2 k hk k1 k2
    · rw [f6 9 (by decide) (by decide) (by decide), f6 10 (by decide) (by decide) (by decide)]
      exact h9 k hk
    · rw [f6 23 (by decide) (by decide) (by decide), kc 23 (by decide) (by decide)]
  have e24 : μ6 24 = μ 24 := by rw [f6 24 (by decide) (by decide) (by decide), kc 24 (by decide) (by decide)]
  have e23 : μ6 23 = μ 23 := by rw [f6 23 (by decide) (by decide) (by decide), kc 23 (by decide) (by decide)]
  have f39 : μ6 0 39 = i := (fr.2.1 39 (by decide) (by decide) (by decide)).trans c39
  have run : L_Model_triesRow_2 K zN 0 μ = if A.1 < o_ps (μ 2) (μ 5) p i 86 then L_Model_triesRow_71 (fun μ17 => some (.inr none, μ17)) zN 0 (zUp μ6 0 40 (o_ps (μ 2) (μ 5) p i 86)) else some (.inr none, μ6) := by
    refine e.trans ?_
    rw [hv]
    obtain ⟨n, hn⟩ : ∃ n, zN - i = n + 1 := ⟨zN - i - 1, by have := zN_gt (m := i) (by omega); omega⟩
    rw [hn]
    have : L_Model_triesRow_2 K (n + 1) (i : Int) ν = K ν := by
      simp (disch := omega) only [L_Model_triesRow_2, Int.add_zero, Int.mul_zero, Int.reduceMul, Int.reduceAdd, Int.mul_one, Int.tdiv_eq_ediv_of_nonneg, Int.tmod_eq_emod_of_nonneg, ↓reduceIte, ↓zLet_eq, ↓zRd_ok, ↓zWr_ok, ↓zC_V, ↓zC_I, ↓zC_J, zUp_at, zUp_ne, q_up_at, q_up_ne, w32_of, w64_of, q_le_T, q_le_F, q_lt_T, q_lt_F, q_eq_T, q_eq_F, true_or, or_true, or_false, false_or, false_and, and_false, e39]
    refine this.trans ?_
    rw [← hK]
    show zRd ν 5 92 86 _ = _
    rw [zRd_ok (by decide) (by decide) (by decide), r6, zC_V, e40, e86, w64_of (by omega) (by omega), w64_of (by omega) (by omega)]
    rfl
  rw [run]
  unfold o_lf
  by_cases g : A.1 < o_ps (μ 2) (μ 5) p i 86
  · rw [if_pos g, if_pos g]
    obtain ⟨⟨v', κ⟩, e', t, hv', htt, k24, k0, kf⟩ := q_loop (L := fun n (b : Int × ZMem) => L_Model_triesRow_71 (fun μ17 => some (.inr none, μ17)) n b.1 b.2) (P := fun k b => ∃ t : Nat, b.1 = t ∧ t + k = i ∧ (∀ q : Int, 0 ≤ q → q < t → b.2 24 q = p q) ∧ b.2 0 = (zUp μ6 0 40 (o_ps (μ 2) (μ 5) p i 86)) 0 ∧ (∀ c, c ≠ 0 → c ≠ 24 → b.2 c = μ6 c)) (fun n k b hb => by
        obtain ⟨v', κ⟩ := b
        obtain ⟨t, rfl, htt, k24, k0, kf⟩ := hb
        simp only [] at k24 k0 kf ⊢
        have f39' : κ 0 39 = i := by rw [k0, zUp_at, q_up_ne (by decide)]; exact f39
        obtain ⟨p1, p2, p3⟩ := hp t (by omega) (by omega)
        have er : κ 23 t = p t := by rw [kf 23 (by decide) (by decide), e23]; exact p1
        refine ⟨(t + 1, zUp κ 24 t (p t)), ?_, t + 1, rfl, by omega, fun q q0 q1 => ?_, ?_, fun c c0 c1 => ?_⟩
        · simp (disch := omega) only [L_Model_triesRow_71, Int.add_zero, Int.mul_zero, Int.reduceMul, Int.reduceAdd, Int.mul_one, Int.tdiv_eq_ediv_of_nonneg, Int.tmod_eq_emod_of_nonneg, ↓reduceIte, ↓zLet_eq, ↓zRd_ok, ↓zWr_ok, ↓zC_V, ↓zC_I, ↓zC_J, zUp_at, zUp_ne, q_up_at, q_up_ne, w32_of, w64_of, q_le_T, q_le_F, q_lt_T, q_lt_F, q_eq_T, q_eq_F, true_or, or_true, or_false, false_or, false_and, and_false, f39', er]
        · simp only []
          rw [zUp_at]
          by_cases hq : q = t
          · rw [hq, q_up_at]
          · rw [q_up_ne hq]; exact k24 q q0 (by omega)
        · simp only []
          rw [zUp_ne (by decide)]; exact k0
        · simp only []
          rw [zUp_ne c1]; exact kf c c0 c1) i zN (0, zUp μ6 0 40 (o_ps (μ 2) (μ 5) p i 86)) ⟨0, rfl, by omega, fun q q0 q1 => by omega, rfl, fun c c0 _ => zUp_ne c0⟩ (Nat.le_of_lt (zN_gt (by omega)))
    simp only [] at e' hv' k24 k0 kf
    obtain rfl : t = i := by omega
    have f39' : κ 0 39 = t := by rw [k0, zUp_at, q_up_ne (by decide)]; exact f39
    refine ⟨κ, ?_, fr.tr ⟨fun c e0 _ _ _ _ _ _ _ e24 => kf c e0 e24, fun k _ _ k3 => by rw [k0, zUp_at, q_up_ne k3], fun k _ => by rw [kf 9 (by decide) (by decide), kf 10 (by decide) (by decide)]; exact ⟨rfl, rfl⟩, fun q _ => by rw [kf 23 (by decide) (by decide)]⟩, ?_, fun q q0 q1 => k24 q q0 q1, by show -1 ≤ o_ps (μ 2) (μ 5) p t 86; omega, by show o_ps (μ 2) (μ 5) p t 86 ≤ 1000000000; omega⟩
    · refine e'.trans ?_
      rw [hv']
      obtain ⟨n, hn⟩ : ∃ n, zN - t = n + 1 := ⟨zN - t - 1, by have := zN_gt (m := t) (by omega); omega⟩
      rw [hn]
      simp (disch := omega) only [L_Model_triesRow_71, Int.add_zero, Int.mul_zero, Int.reduceMul, Int.reduceAdd, Int.mul_one, Int.tdiv_eq_ediv_of_nonneg, Int.tmod_eq_emod_of_nonneg, ↓reduceIte, ↓zLet_eq, ↓zRd_ok, ↓zWr_ok, ↓zC_V, ↓zC_I, ↓zC_J, zUp_at, zUp_ne, q_up_at, q_up_ne, w32_of, w64_of, q_le_T, q_le_F, q_lt_T, q_lt_F, q_eq_T, q_eq_F, true_or, or_true, or_false, false_or, false_and, and_false, f39']
    · rw [k0, zUp_at, q_up_at]
  · rw [if_neg g, if_neg g]
    exact ⟨μ6, rfl, fr, e40, fun q q0 q1 => by rw [e24]; exact a2 q q0 q1, a3, a4⟩
theorem o_go_6 {m dl L r : Nat} {B u : Int} {s p : Int → Int} {A : OA} {μ : ZMem} {j : Int} (hj : j = 6) (h6 : m ≤ 6) (hdl : dl ≤ 6) (hB0 : 0 ≤ B) (hB1 : B ≤ 764) (c : o_B m dl L B μ) (hp : ∀ i : Int, 0 ≤ i → i < j → μ 23 i = p i ∧ 0 ≤ p i ∧ p i < dl) (hs : s = o_ps (μ 2) (μ 5) p 6) (hD : ∀ d : Nat, d < dl → 0 ≤ s (30 + 4 * d + 3) ∧ s (30 + 4 * d + 3) ≤ 1) (u0 : 0 ≤ u) (u1 : u < 64) (hu : ∀ d : Nat, d < dl → ((w32 (zand (zshr u d) 1) = 1 ∨ μ 5 (30 + 4 * d + 3) = 1) ↔ s (30 + 4 * d + 3) ≠ 0)) (hL : (L : Int) = j + r) (hL6 : L ≤ 6) (hA : o_A L A μ) : ∃ μ', F_Model_goesOn_6 u μ = some (.inr none, μ') ∧ o_gf j μ μ' ∧ o_A L (o_tr (μ 2) dl r j s p A) μ' := by
  have c39 : μ 0 39 = L := c.2.2.2.1
  cases r with
  | zero =>
    obtain rfl : L = 6 := by omega
    obtain ⟨μ', r1, f1, h1⟩ := o_row h6 hdl hL6 hB0 hB1 c (fun i i0 i1 => hp i i0 (by omega)) hA
    refine ⟨μ', ?_, ?_, by rw [o_tr, hs]; exact h1⟩
    · unfold F_Model_goesOn_6
      rw [c39, w32_of (by omega) (by omega), w32_of (by omega) (by omega), if_pos (by omega), r1, zC_V]
    · rw [hj]; exact f1
  | succ r => exfalso; omega
theorem o_go_5 {m dl L r : Nat} {B u : Int} {s p : Int → Int} {A : OA} {μ : ZMem} {j : Int} (hj : j = 5) (h6 : m ≤ 6) (hdl : dl ≤ 6) (hB0 : 0 ≤ B) (hB1 : B ≤ 764) (c : o_B m dl L B μ) (hp : ∀ i : Int, 0 ≤ i → i < j → μ 23 i = p i ∧ 0 ≤ p i ∧ p i < dl) (hs : s = o_ps (μ 2) (μ 5) p 5) (hD : ∀ d : Nat, d < dl → 0 ≤ s (30 + 4 * d + 3) ∧ s (30 + 4 * d + 3) ≤ 1) (u0 : 0 ≤ u) (u1 : u < 64) (hu : ∀ d : Nat, d < dl → ((w32 (zand (zshr u d) 1) = 1 ∨ μ 5 (30 + 4 * d + 3) = 1) ↔ s (30 + 4 * d + 3) ≠ 0)) (hL : (L : Int) = j + r) (hL6 : L ≤ 6) (hA : o_A L A μ) : ∃ μ', F_Model_goesOn_5 u μ = some (.inr none, μ') ∧ o_gf j μ μ' ∧ o_A L (o_tr (μ 2) dl r j s p A) μ' := by
  have c39 : μ 0 39 = L := c.2.2.2.1
  cases r with
  | zero =>
    obtain rfl : L = 5 := by omega
    obtain ⟨μ', r1, f1, h1⟩ := o_row h6 hdl hL6 hB0 hB1 c (fun i i0 i1 => hp i i0 (by omega)) hA
    refine ⟨μ', ?_, ?_, by rw [o_tr, hs]; exact h1⟩
    · unfold F_Model_goesOn_5
      rw [c39, w32_of (by omega) (by omega), w32_of (by omega) (by omega), if_pos (by omega), r1, zC_V]
    · rw [hj]; exact f1
  | succ r =>
    subst hj
    generalize hF : (fun (d : Nat) (A : OA) => if s (30 + 4 * (d : Int) + 3) = 0 then o_tr (μ 2) dl r (5 + 1) (q_sb (μ 2) d (s (30 + 4 * (d : Int) + 2)) 1 s) (q_up p 5 d) A else A) = f
    obtain ⟨⟨v, κ⟩, e, i, hv, hii, fr, hh⟩ := q_loop (L := fun n (b : Int × ZMem) => L_Model_goesOn_5_15 u (fun μ10 => some (.inr none, μ10)) n b.1 b.2) (P := fun k b => ∃ i : Nat, b.1 = i ∧ i + k = dl ∧ o_gf 5 μ b.2 ∧ o_A L (o_fd f i A) b.2) (fun n k b hb2 => by
        obtain ⟨v, κ⟩ := b
        obtain ⟨i, rfl, hii, fr, hh⟩ := hb2
        simp only [] at fr hh ⊢
        have cκ := c.gf fr
        have k6 : κ 0 6 = dl := cκ.2.1
        have ui := hu i (by omega)
        have di := hD i (by omega)
        have ef : o_fd f (i + 1) A = f i (o_fd f i A) := rfl
        have e5 : κ 5 = μ 5 := fr.c (by decide)
        have e2 : κ 2 = μ 2 := fr.c (by decide)
        have ci := c.2.2.2.2.1.2.1 i (by omega)
        rw [← e5] at ui ci
        have skip : ¬ s (30 + 4 * i + 3) = 0 → o_A L (o_fd f (i + 1) A) κ := fun h0 => by
          rw [ef, ← hF]
          simp only []
          rw [if_neg h0, hF]
          exact hh
        by_cases hb : w32 (zand (zshr u i) 1) = 1
        · refine ⟨(i + 1, κ), ?_, i + 1, rfl, by omega, fr, skip (ui.mp (Or.inl hb))⟩
          show L_Model_goesOn_5_15 u _ (n + 1) (i : Int) κ = _
          rw [L_Model_goesOn_5_15, k6, w32_of (a := (dl : Int)) (by omega) (by omega), w32_of (a := (i : Int)) (by omega) (by omega), if_neg (by omega), hb, w32_of (a := 1) (by omega) (by omega), if_pos rfl]
          rfl
        · by_cases hc : κ 5 (30 + 4 * i + 3) = 1
          · refine ⟨(i + 1, κ), ?_, i + 1, rfl, by omega, fr, skip (ui.mp (Or.inr hc))⟩
            show L_Model_goesOn_5_15 u _ (n + 1) (i : Int) κ = _
            rw [L_Model_goesOn_5_15, k6, w32_of (a := (dl : Int)) (by omega) (by omega), w32_of (a := (i : Int)) (by omega) (by omega), if_neg (by omega), w32_of (a := 1) (by omega) (by omega), if_neg hb, m_dealAt, zC_I, zRd_ok (by omega) (by omega) (by omega), hc, w64_of (by omega) (by omega), if_pos rfl]
            rfl
          · have s0 : s (30 + 4 * i + 3) = 0 := by
              by_cases h0 : s (30 + 4 * i + 3) = 0
              · exact h0
              · exfalso
                rcases ui.mpr h0 with h1 | h1
                · exact hb h1
                · exact hc h1
            obtain ⟨⟨v0, v1⟩, vb⟩ := bit_or (f := u) (i := i) u0 u1 (by omega) (by omega)
            have fr2 : o_gf 5 κ (zUp κ 23 5 i) := ⟨fun c _ _ _ _ _ _ _ e23 _ => zUp_ne e23, fun k _ _ _ => by rw [zUp_ne (by decide)], fun k _ => by rw [zUp_ne (by decide), zUp_ne (by decide)]; exact ⟨rfl, rfl⟩, fun q hq => by rw [zUp_at, q_up_ne (by omega)]⟩
            have hcl : ∀ d : Nat, d < dl → q_sb (μ 2) i (s (30 + 4 * i + 2)) 1 s (30 + 4 * d + 3) = if d = i then 1 else s (30 + 4 * d + 3) := fun d hd => by
              rw [q_sb_k6 (by omega) (by omega) (by unfold q_k6; omega), if_neg (by omega)]
              by_cases hdi : d = i
              · rw [if_pos hdi, hdi, if_pos ⟨by decide, rfl⟩]
              · rw [if_neg hdi, if_neg (fun q => hdi (by omega))]
            obtain ⟨κ4, r4, f4, h4⟩ := o_go_6 (r := r) (u := zor u (zshl 1 i)) (s := q_sb (μ 2) i (s (30 + 4 * i + 2)) 1 s) (p := q_up p 5 i) (A := o_fd f i A) (μ := zUp κ 23 5 i) (j := 5 + 1) (by decide) h6 hdl hB0 hB1 (cκ.gf fr2) (fun q q0 q1 => by
                rw [zUp_at]
                by_cases hq : q = 5
                · rw [hq, q_up_at, q_up_at]; exact ⟨rfl, by omega, by omega⟩
                · rw [q_up_ne hq, q_up_ne hq, fr.2.2.2 q (by omega)]
                  exact hp q q0 (by omega)) (by
                rw [zUp_ne (by decide), zUp_ne (by decide), e2, e5]
                show _ = o_ps (μ 2) (μ 5) (q_up p 5 i) (5 + 1)
                rw [o_ps, o_ps_congr (p := p) 5 (fun q q0 q1 => q_up_ne (by omega)), ← hs]
                show _ = q_sb (μ 2) (q_up p 5 i 5) (s (30 + 4 * q_up p 5 i 5 + 2)) 1 s
                rw [q_up_at]) (fun d hd => by
                rw [hcl d hd]
                have := hD d hd
                split
                · omega
                · exact this) v0 v1 (fun d hd => by
                rw [hcl d hd, zUp_ne (by decide), e5, vb d (by omega) (by omega)]
                have ud := hu d hd
                by_cases hdi : d = i
                · rw [if_pos hdi]
                  exact ⟨fun _ => by decide, fun _ => Or.inl (Or.inl (by omega))⟩
                · rw [if_neg hdi, ← ud]
                  exact ⟨fun q => by
                    rcases q with (q | q) | q
                    · exact absurd q (by omega)
                    · exact Or.inl q
                    · exact Or.inr q, fun q => by
                    rcases q with q | q
                    · exact Or.inl (Or.inr q)
                    · exact Or.inr q⟩) (by omega) hL6 (by
                obtain ⟨a1, a2, a3⟩ := hh
                exact ⟨by rw [zUp_ne (by decide)]; exact a1, fun q q0 q1 => by rw [zUp_ne (by decide)]; exact a2 q q0 q1, a3⟩)
            refine ⟨(i + 1, κ4), ?_, i + 1, rfl, by omega, fr.tr (fr2.tr ⟨f4.1, f4.2.1, f4.2.2.1, fun q hq => f4.2.2.2 q (by omega)⟩), ?_⟩
            · show L_Model_goesOn_5_15 u _ (n + 1) (i : Int) κ = _
              rw [L_Model_goesOn_5_15, k6, w32_of (a := (dl : Int)) (by omega) (by omega), w32_of (a := (i : Int)) (by omega) (by omega), if_neg (by omega), w32_of (a := 1) (by omega) (by omega), if_neg hb, m_dealAt, zC_I, zRd_ok (by omega) (by omega) (by omega), w64_of (by omega) (by omega), w64_of (by omega) (by omega), if_neg hc, zWr_ok (by omega) (by omega) (by omega)]
              show zC (F_Model_goesOn_6 (zor u (zshl 1 i)) (zUp κ 23 5 i)) _ _ = _
              rw [r4, zC_V]
              rfl
            · simp only []
              rw [ef, ← hF]
              simp only []
              rw [if_pos s0, hF]
              rw [zUp_ne (by decide), e2] at h4
              exact h4) dl zN (0, μ) ⟨0, rfl, by omega, o_gf.rf _ _, hA⟩ (Nat.le_of_lt (zN_gt (by omega)))
    simp only [] at e hv fr hh
    obtain rfl : i = dl := by omega
    have eo : o_tr (μ 2) i (r + 1) 5 s p A = o_fd f i A := by rw [o_tr, hF]
    refine ⟨κ, ?_, fr, by rw [eo]; exact hh⟩
    have k6 : κ 0 6 = i := (c.gf fr).2.1
    unfold F_Model_goesOn_5
    rw [c39, w32_of (a := (L : Int)) (by omega) (by omega), w32_of (by omega) (by omega), if_neg (by omega)]
    refine e.trans ?_
    rw [hv]
    obtain ⟨n, hn⟩ : ∃ n, zN - i = n + 1 := ⟨zN - i - 1, by have := zN_gt (m := i) (by omega); omega⟩
    rw [hn]
    show L_Model_goesOn_5_15 u _ (n + 1) (i : Int) κ = _
    rw [L_Model_goesOn_5_15, k6, if_pos (Int.le_refl _)]
theorem o_go_4 {m dl L r : Nat} {B u : Int} {s p : Int → Int} {A : OA} {μ : ZMem} {j : Int} (hj : j = 4) (h6 : m ≤ 6) (hdl : dl ≤ 6) (hB0 : 0 ≤ B) (hB1 : B ≤ 764) (c : o_B m dl L B μ) (hp : ∀ i : Int, 0 ≤ i → i < j → μ 23 i = p i ∧ 0 ≤ p i ∧ p i < dl) (hs : s = o_ps (μ 2) (μ 5) p 4) (hD : ∀ d : Nat, d < dl → 0 ≤ s (30 + 4 * d + 3) ∧ s (30 + 4 * d + 3) ≤ 1) (u0 : 0 ≤ u) (u1 : u < 64) (hu : ∀ d : Nat, d < dl → ((w32 (zand (zshr u d) 1) = 1 ∨ μ 5 (30 + 4 * d + 3) = 1) ↔ s (30 + 4 * d + 3) ≠ 0)) (hL : (L : Int) = j + r) (hL6 : L ≤ 6) (hA : o_A L A μ) : ∃ μ', F_Model_goesOn_4 u μ = some (.inr none, μ') ∧ o_gf j μ μ' ∧ o_A L (o_tr (μ 2) dl r j s p A) μ' := by
  have c39 : μ 0 39 = L := c.2.2.2.1
  cases r with
  | zero =>
    obtain rfl : L = 4 := by omega
    obtain ⟨μ', r1, f1, h1⟩ := o_row h6 hdl hL6 hB0 hB1 c (fun i i0 i1 => hp i i0 (by omega)) hA
    refine ⟨μ', ?_, ?_, by rw [o_tr, hs]; exact h1⟩
    · unfold F_Model_goesOn_4
      rw [c39, w32_of (by omega) (by omega), w32_of (by omega) (by omega), if_pos (by omega), r1, zC_V]
    · rw [hj]; exact f1
  | succ r =>
    subst hj
    generalize hF : (fun (d : Nat) (A : OA) => if s (30 + 4 * (d : Int) + 3) = 0 then o_tr (μ 2) dl r (4 + 1) (q_sb (μ 2) d (s (30 + 4 * (d : Int) + 2)) 1 s) (q_up p 4 d) A else A) = f
    obtain ⟨⟨v, κ⟩, e, i, hv, hii, fr, hh⟩ := q_loop (L := fun n (b : Int × ZMem) => L_Model_goesOn_4_15 u (fun μ10 => some (.inr none, μ10)) n b.1 b.2) (P := fun k b => ∃ i : Nat, b.1 = i ∧ i + k = dl ∧ o_gf 4 μ b.2 ∧ o_A L (o_fd f i A) b.2) (fun n k b hb2 => by
        obtain ⟨v, κ⟩ := b
        obtain ⟨i, rfl, hii, fr, hh⟩ := hb2
        simp only [] at fr hh ⊢
        have cκ := c.gf fr
        have k6 : κ 0 6 = dl := cκ.2.1
        have ui := hu i (by omega)
        have di := hD i (by omega)
        have ef : o_fd f (i + 1) A = f i (o_fd f i A) := rfl
        have e5 : κ 5 = μ 5 := fr.c (by decide)
        have e2 : κ 2 = μ 2 := fr.c (by decide)
        have ci := c.2.2.2.2.1.2.1 i (by omega)
        rw [← e5] at ui ci
        have skip : ¬ s (30 + 4 * i + 3) = 0 → o_A L (o_fd f (i + 1) A) κ := fun h0 => by
          rw [ef, ← hF]
          simp only []
          rw [if_neg h0, hF]
          exact hh
        by_cases hb : w32 (zand (zshr u i) 1) = 1
        · refine ⟨(i + 1, κ), ?_, i + 1, rfl, by omega, fr, skip (ui.mp (Or.inl hb))⟩
          show L_Model_goesOn_4_15 u _ (n + 1) (i : Int) κ = _
          rw [L_Model_goesOn_4_15, k6, w32_of (a := (dl : Int)) (by omega) (by omega), w32_of (a := (i : Int)) (by omega) (by omega), if_neg (by omega), hb, w32_of (a := 1) (by omega) (by omega), if_pos rfl]
          rfl
        · by_cases hc : κ 5 (30 + 4 * i + 3) = 1
          · refine ⟨(i + 1, κ), ?_, i + 1, rfl, by omega, fr, skip (ui.mp (Or.inr hc))⟩
            show L_Model_goesOn_4_15 u _ (n + 1) (i : Int) κ = _
            rw [L_Model_goesOn_4_15, k6, w32_of (a := (dl : Int)) (by omega) (by omega), w32_of (a := (i : Int)) (by omega) (by omega), if_neg (by omega), w32_of (a := 1) (by omega) (by omega), if_neg hb, m_dealAt, zC_I, zRd_ok (by omega) (by omega) (by omega), hc, w64_of (by omega) (by omega), if_pos rfl]
            rfl
          · have s0 : s (30 + 4 * i + 3) = 0 := by
              by_cases h0 : s (30 + 4 * i + 3) = 0
              · exact h0
              · exfalso
                rcases ui.mpr h0 with h1 | h1
                · exact hb h1
                · exact hc h1
            obtain ⟨⟨v0, v1⟩, vb⟩ := bit_or (f := u) (i := i) u0 u1 (by omega) (by omega)
            have fr2 : o_gf 4 κ (zUp κ 23 4 i) := ⟨fun c _ _ _ _ _ _ _ e23 _ => zUp_ne e23, fun k _ _ _ => by rw [zUp_ne (by decide)], fun k _ => by rw [zUp_ne (by decide), zUp_ne (by decide)]; exact ⟨rfl, rfl⟩, fun q hq => by rw [zUp_at, q_up_ne (by omega)]⟩
            have hcl : ∀ d : Nat, d < dl → q_sb (μ 2) i (s (30 + 4 * i + 2)) 1 s (30 + 4 * d + 3) = if d = i then 1 else s (30 + 4 * d + 3) := fun d hd => by
              rw [q_sb_k6 (by omega) (by omega) (by unfold q_k6; omega), if_neg (by omega)]
              by_cases hdi : d = i
              · rw [if_pos hdi, hdi, if_pos ⟨by decide, rfl⟩]
              · rw [if_neg hdi, if_neg (fun q => hdi (by omega))]
            obtain ⟨κ4, r4, f4, h4⟩ := o_go_5 (r := r) (u := zor u (zshl 1 i)) (s := q_sb (μ 2) i (s (30 + 4 * i + 2)) 1 s) (p := q_up p 4 i) (A := o_fd f i A) (μ := zUp κ 23 4 i) (j := 4 + 1) (by decide) h6 hdl hB0 hB1 (cκ.gf fr2) (fun q q0 q1 => by
                rw [zUp_at]
                by_cases hq : q = 4
                · rw [hq, q_up_at, q_up_at]; exact ⟨rfl, by omega, by omega⟩
                · rw [q_up_ne hq, q_up_ne hq, fr.2.2.2 q (by omega)]
                  exact hp q q0 (by omega)) (by
                rw [zUp_ne (by decide), zUp_ne (by decide), e2, e5]
                show _ = o_ps (μ 2) (μ 5) (q_up p 4 i) (4 + 1)
                rw [o_ps, o_ps_congr (p := p) 4 (fun q q0 q1 => q_up_ne (by omega)), ← hs]
                show _ = q_sb (μ 2) (q_up p 4 i 4) (s (30 + 4 * q_up p 4 i 4 + 2)) 1 s
                rw [q_up_at]) (fun d hd => by
                rw [hcl d hd]
                have := hD d hd
                split
                · omega
                · exact this) v0 v1 (fun d hd => by
                rw [hcl d hd, zUp_ne (by decide), e5, vb d (by omega) (by omega)]
                have ud := hu d hd
                by_cases hdi : d = i
                · rw [if_pos hdi]
                  exact ⟨fun _ => by decide, fun _ => Or.inl (Or.inl (by omega))⟩
                · rw [if_neg hdi, ← ud]
                  exact ⟨fun q => by
                    rcases q with (q | q) | q
                    · exact absurd q (by omega)
                    · exact Or.inl q
                    · exact Or.inr q, fun q => by
                    rcases q with q | q
                    · exact Or.inl (Or.inr q)
                    · exact Or.inr q⟩) (by omega) hL6 (by
                obtain ⟨a1, a2, a3⟩ := hh
                exact ⟨by rw [zUp_ne (by decide)]; exact a1, fun q q0 q1 => by rw [zUp_ne (by decide)]; exact a2 q q0 q1, a3⟩)
            refine ⟨(i + 1, κ4), ?_, i + 1, rfl, by omega, fr.tr (fr2.tr ⟨f4.1, f4.2.1, f4.2.2.1, fun q hq => f4.2.2.2 q (by omega)⟩), ?_⟩
            · show L_Model_goesOn_4_15 u _ (n + 1) (i : Int) κ = _
              rw [L_Model_goesOn_4_15, k6, w32_of (a := (dl : Int)) (by omega) (by omega), w32_of (a := (i : Int)) (by omega) (by omega), if_neg (by omega), w32_of (a := 1) (by omega) (by omega), if_neg hb, m_dealAt, zC_I, zRd_ok (by omega) (by omega) (by omega), w64_of (by omega) (by omega), w64_of (by omega) (by omega), if_neg hc, zWr_ok (by omega) (by omega) (by omega)]
              show zC (F_Model_goesOn_5 (zor u (zshl 1 i)) (zUp κ 23 4 i)) _ _ = _
              rw [r4, zC_V]
              rfl
            · simp only []
              rw [ef, ← hF]
              simp only []
              rw [if_pos s0, hF]
              rw [zUp_ne (by decide), e2] at h4
              exact h4) dl zN (0, μ) ⟨0, rfl, by omega, o_gf.rf _ _, hA⟩ (Nat.le_of_lt (zN_gt (by omega)))
    simp only [] at e hv fr hh
    obtain rfl : i = dl := by omega
    have eo : o_tr (μ 2) i (r + 1) 4 s p A = o_fd f i A := by rw [o_tr, hF]
    refine ⟨κ, ?_, fr, by rw [eo]; exact hh⟩
    have k6 : κ 0 6 = i := (c.gf fr).2.1
    unfold F_Model_goesOn_4
    rw [c39, w32_of (a := (L : Int)) (by omega) (by omega), w32_of (by omega) (by omega), if_neg (by omega)]
    refine e.trans ?_
    rw [hv]
    obtain ⟨n, hn⟩ : ∃ n, zN - i = n + 1 := ⟨zN - i - 1, by have := zN_gt (m := i) (by omega); omega⟩
    rw [hn]
    show L_Model_goesOn_4_15 u _ (n + 1) (i : Int) κ = _
    rw [L_Model_goesOn_4_15, k6, if_pos (Int.le_refl _)]
theorem o_go_3 {m dl L r : Nat} {B u : Int} {s p : Int → Int} {A : OA} {μ : ZMem} {j : Int} (hj : j = 3) (h6 : m ≤ 6) (hdl : dl ≤ 6) (hB0 : 0 ≤ B) (hB1 : B ≤ 764) (c : o_B m dl L B μ) (hp : ∀ i : Int, 0 ≤ i → i < j → μ 23 i = p i ∧ 0 ≤ p i ∧ p i < dl) (hs : s = o_ps (μ 2) (μ 5) p 3) (hD : ∀ d : Nat, d < dl → 0 ≤ s (30 + 4 * d + 3) ∧ s (30 + 4 * d + 3) ≤ 1) (u0 : 0 ≤ u) (u1 : u < 64) (hu : ∀ d : Nat, d < dl → ((w32 (zand (zshr u d) 1) = 1 ∨ μ 5 (30 + 4 * d + 3) = 1) ↔ s (30 + 4 * d + 3) ≠ 0)) (hL : (L : Int) = j + r) (hL6 : L ≤ 6) (hA : o_A L A μ) : ∃ μ', F_Model_goesOn_3 u μ = some (.inr none, μ') ∧ o_gf j μ μ' ∧ o_A L (o_tr (μ 2) dl r j s p A) μ' := by
  have c39 : μ 0 39 = L := c.2.2.2.1
  cases r with
  | zero =>
    obtain rfl : L = 3 := by omega
    obtain ⟨μ', r1, f1, h1⟩ := o_row h6 hdl hL6 hB0 hB1 c (fun i i0 i1 => hp i i0 (by omega)) hA
    refine ⟨μ', ?_, ?_, by rw [o_tr, hs]; exact h1⟩
    · unfold F_Model_goesOn_3
      rw [c39, w32_of (by omega) (by omega), w32_of (by omega) (by omega), if_pos (by omega), r1, zC_V]
    · rw [hj]; exact f1
  | succ r =>
    subst hj
    generalize hF : (fun (d : Nat) (A : OA) => if s (30 + 4 * (d : Int) + 3) = 0 then o_tr (μ 2) dl r (3 + 1) (q_sb (μ 2) d (s (30 + 4 * (d : Int) + 2)) 1 s) (q_up p 3 d) A else A) = f
    obtain ⟨⟨v, κ⟩, e, i, hv, hii, fr, hh⟩ := q_loop (L := fun n (b : Int × ZMem) => L_Model_goesOn_3_15 u (fun μ10 => some (.inr none, μ10)) n b.1 b.2) (P := fun k b => ∃ i : Nat, b.1 = i ∧ i + k = dl ∧ o_gf 3 μ b.2 ∧ o_A L (o_fd f i A) b.2) (fun n k b hb2 => by
        obtain ⟨v, κ⟩ := b
        obtain ⟨i, rfl, hii, fr, hh⟩ := hb2
        simp only [] at fr hh ⊢
        have cκ := c.gf fr
        have k6 : κ 0 6 = dl := cκ.2.1
        have ui := hu i (by omega)
        have di := hD i (by omega)
        have ef : o_fd f (i + 1) A = f i (o_fd f i A) := rfl
        have e5 : κ 5 = μ 5 := fr.c (by decide)
        have e2 : κ 2 = μ 2 := fr.c (by decide)
        have ci := c.2.2.2.2.1.2.1 i (by omega)
        rw [← e5] at ui ci
        have skip : ¬ s (30 + 4 * i + 3) = 0 → o_A L (o_fd f (i + 1) A) κ := fun h0 => by
          rw [ef, ← hF]
          simp only []
          rw [if_neg h0, hF]
          exact hh
        by_cases hb : w32 (zand (zshr u i) 1) = 1
        · refine ⟨(i + 1, κ), ?_, i + 1, rfl, by omega, fr, skip (ui.mp (Or.inl hb))⟩
          show L_Model_goesOn_3_15 u _ (n + 1) (i : Int) κ = _
          rw [L_Model_goesOn_3_15, k6, w32_of (a := (dl : Int)) (by omega) (by omega), w32_of (a := (i : Int)) (by omega) (by omega), if_neg (by omega), hb, w32_of (a := 1) (by omega) (by omega), if_pos rfl]
          rfl
        · by_cases hc : κ 5 (30 + 4 * i + 3) = 1
          · refine ⟨(i + 1, κ), ?_, i + 1, rfl, by omega, fr, skip (ui.mp (Or.inr hc))⟩
            show L_Model_goesOn_3_15 u _ (n + 1) (i : Int) κ = _
            rw [L_Model_goesOn_3_15, k6, w32_of (a := (dl : Int)) (by omega) (by omega), w32_of (a := (i : Int)) (by omega) (by omega), if_neg (by omega), w32_of (a := 1) (by omega) (by omega), if_neg hb, m_dealAt, zC_I, zRd_ok (by omega) (by omega) (by omega), hc, w64_of (by omega) (by omega), if_pos rfl]
            rfl
          · have s0 : s (30 + 4 * i + 3) = 0 := by
              by_cases h0 : s (30 + 4 * i + 3) = 0
              · exact h0
              · exfalso
                rcases ui.mpr h0 with h1 | h1
                · exact hb h1
                · exact hc h1
            obtain ⟨⟨v0, v1⟩, vb⟩ := bit_or (f := u) (i := i) u0 u1 (by omega) (by omega)
            have fr2 : o_gf 3 κ (zUp κ 23 3 i) := ⟨fun c _ _ _ _ _ _ _ e23 _ => zUp_ne e23, fun k _ _ _ => by rw [zUp_ne (by decide)], fun k _ => by rw [zUp_ne (by decide), zUp_ne (by decide)]; exact ⟨rfl, rfl⟩, fun q hq => by rw [zUp_at, q_up_ne (by omega)]⟩
            have hcl : ∀ d : Nat, d < dl → q_sb (μ 2) i (s (30 + 4 * i + 2)) 1 s (30 + 4 * d + 3) = if d = i then 1 else s (30 + 4 * d + 3) := fun d hd => by
              rw [q_sb_k6 (by omega) (by omega) (by unfold q_k6; omega), if_neg (by omega)]
              by_cases hdi : d = i
              · rw [if_pos hdi, hdi, if_pos ⟨by decide, rfl⟩]
              · rw [if_neg hdi, if_neg (fun q => hdi (by omega))]
            obtain ⟨κ4, r4, f4, h4⟩ := o_go_4 (r := r) (u := zor u (zshl 1 i)) (s := q_sb (μ 2) i (s (30 + 4 * i + 2)) 1 s) (p := q_up p 3 i) (A := o_fd f i A) (μ := zUp κ 23 3 i) (j := 3 + 1) (by decide) h6 hdl hB0 hB1 (cκ.gf fr2) (fun q q0 q1 => by
                rw [zUp_at]
                by_cases hq : q = 3
                · rw [hq, q_up_at, q_up_at]; exact ⟨rfl, by omega, by omega⟩
                · rw [q_up_ne hq, q_up_ne hq, fr.2.2.2 q (by omega)]
                  exact hp q q0 (by omega)) (by
                rw [zUp_ne (by decide), zUp_ne (by decide), e2, e5]
                show _ = o_ps (μ 2) (μ 5) (q_up p 3 i) (3 + 1)
                rw [o_ps, o_ps_congr (p := p) 3 (fun q q0 q1 => q_up_ne (by omega)), ← hs]
                show _ = q_sb (μ 2) (q_up p 3 i 3) (s (30 + 4 * q_up p 3 i 3 + 2)) 1 s
                rw [q_up_at]) (fun d hd => by
                rw [hcl d hd]
                have := hD d hd
                split
                · omega
                · exact this) v0 v1 (fun d hd => by
                rw [hcl d hd, zUp_ne (by decide), e5, vb d (by omega) (by omega)]
                have ud := hu d hd
                by_cases hdi : d = i
                · rw [if_pos hdi]
                  exact ⟨fun _ => by decide, fun _ => Or.inl (Or.inl (by omega))⟩
                · rw [if_neg hdi, ← ud]
                  exact ⟨fun q => by
                    rcases q with (q | q) | q
                    · exact absurd q (by omega)
                    · exact Or.inl q
                    · exact Or.inr q, fun q => by
                    rcases q with q | q
                    · exact Or.inl (Or.inr q)
                    · exact Or.inr q⟩) (by omega) hL6 (by
                obtain ⟨a1, a2, a3⟩ := hh
                exact ⟨by rw [zUp_ne (by decide)]; exact a1, fun q q0 q1 => by rw [zUp_ne (by decide)]; exact a2 q q0 q1, a3⟩)
            refine ⟨(i + 1, κ4), ?_, i + 1, rfl, by omega, fr.tr (fr2.tr ⟨f4.1, f4.2.1, f4.2.2.1, fun q hq => f4.2.2.2 q (by omega)⟩), ?_⟩
            · show L_Model_goesOn_3_15 u _ (n + 1) (i : Int) κ = _
              rw [L_Model_goesOn_3_15, k6, w32_of (a := (dl : Int)) (by omega) (by omega), w32_of (a := (i : Int)) (by omega) (by omega), if_neg (by omega), w32_of (a := 1) (by omega) (by omega), if_neg hb, m_dealAt, zC_I, zRd_ok (by omega) (by omega) (by omega), w64_of (by omega) (by omega), w64_of (by omega) (by omega), if_neg hc, zWr_ok (by omega) (by omega) (by omega)]
              show zC (F_Model_goesOn_4 (zor u (zshl 1 i)) (zUp κ 23 3 i)) _ _ = _
              rw [r4, zC_V]
              rfl
            · simp only []
              rw [ef, ← hF]
              simp only []
              rw [if_pos s0, hF]
              rw [zUp_ne (by decide), e2] at h4
              exact h4) dl zN (0, μ) ⟨0, rfl, by omega, o_gf.rf _ _, hA⟩ (Nat.le_of_lt (zN_gt (by omega)))
    simp only [] at e hv fr hh
    obtain rfl : i = dl := by omega
    have eo : o_tr (μ 2) i (r + 1) 3 s p A = o_fd f i A := by rw [o_tr, hF]
    refine ⟨κ, ?_, fr, by rw [eo]; exact hh⟩
    have k6 : κ 0 6 = i := (c.gf fr).2.1
    unfold F_Model_goesOn_3
    rw [c39, w32_of (a := (L : Int)) (by omega) (by omega), w32_of (by omega) (by omega), if_neg (by omega)]
    refine e.trans ?_
    rw [hv]
    obtain ⟨n, hn⟩ : ∃ n, zN - i = n + 1 := ⟨zN - i - 1, by have := zN_gt (m := i) (by omega); omega⟩
    rw [hn]
    show L_Model_goesOn_3_15 u _ (n + 1) (i : Int) κ = _
    rw [L_Model_goesOn_3_15, k6, if_pos (Int.le_refl _)]
theorem o_go_2 {m dl L r : Nat} {B u : Int} {s p : Int → Int} {A : OA} {μ : ZMem} {j : Int} (hj : j = 2) (h6 : m ≤ 6) (hdl : dl ≤ 6) (hB0 : 0 ≤ B) (hB1 : B ≤ 764) (c : o_B m dl L B μ) (hp : ∀ i : Int, 0 ≤ i → i < j → μ 23 i = p i ∧ 0 ≤ p i ∧ p i < dl) (hs : s = o_ps (μ 2) (μ 5) p 2) (hD : ∀ d : Nat, d < dl → 0 ≤ s (30 + 4 * d + 3) ∧ s (30 + 4 * d + 3) ≤ 1) (u0 : 0 ≤ u) (u1 : u < 64) (hu : ∀ d : Nat, d < dl → ((w32 (zand (zshr u d) 1) = 1 ∨ μ 5 (30 + 4 * d + 3) = 1) ↔ s (30 + 4 * d + 3) ≠ 0)) (hL : (L : Int) = j + r) (hL6 : L ≤ 6) (hA : o_A L A μ) : ∃ μ', F_Model_goesOn_2 u μ = some (.inr none, μ') ∧ o_gf j μ μ' ∧ o_A L (o_tr (μ 2) dl r j s p A) μ' := by
  have c39 : μ 0 39 = L := c.2.2.2.1
  cases r with
  | zero =>
    obtain rfl : L = 2 := by omega
    obtain ⟨μ', r1, f1, h1⟩ := o_row h6 hdl hL6 hB0 hB1 c (fun i i0 i1 => hp i i0 (by omega)) hA
    refine ⟨μ', ?_, ?_, by rw [o_tr, hs]; exact h1⟩
    · unfold F_Model_goesOn_2
      rw [c39, w32_of (by omega) (by omega), w32_of (by omega) (by omega), if_pos (by omega), r1, zC_V]
    · rw [hj]; exact f1
  | succ r =>
    subst hj
    generalize hF : (fun (d : Nat) (A : OA) => if s (30 + 4 * (d : Int) + 3) = 0 then o_tr (μ 2) dl r (2 + 1) (q_sb (μ 2) d (s (30 + 4 * (d : Int) + 2)) 1 s) (q_up p 2 d) A else A) = f
    obtain ⟨⟨v, κ⟩, e, i, hv, hii, fr, hh⟩ := q_loop (L := fun n (b : Int × ZMem) => L_Model_goesOn_2_15 u (fun μ10 => some (.inr none, μ10)) n b.1 b.2) (P := fun k b => ∃ i : Nat, b.1 = i ∧ i + k = dl ∧ o_gf 2 μ b.2 ∧ o_A L (o_fd f i A) b.2) (fun n k b hb2 => by
        obtain ⟨v, κ⟩ := b
        obtain ⟨i, rfl, hii, fr, hh⟩ := hb2
        simp only [] at fr hh ⊢
        have cκ := c.gf fr
        have k6 : κ 0 6 = dl := cκ.2.1
        have ui := hu i (by omega)
        have di := hD i (by omega)
        have ef : o_fd f (i + 1) A = f i (o_fd f i A) := rfl
        have e5 : κ 5 = μ 5 := fr.c (by decide)
        have e2 : κ 2 = μ 2 := fr.c (by decide)
        have ci := c.2.2.2.2.1.2.1 i (by omega)
        rw [← e5] at ui ci
        have skip : ¬ s (30 + 4 * i + 3) = 0 → o_A L (o_fd f (i + 1) A) κ := fun h0 => by
          rw [ef, ← hF]
          simp only []
          rw [if_neg h0, hF]
          exact hh
        by_cases hb : w32 (zand (zshr u i) 1) = 1
        · refine ⟨(i + 1, κ), ?_, i + 1, rfl, by omega, fr, skip (ui.mp (Or.inl hb))⟩
          show L_Model_goesOn_2_15 u _ (n + 1) (i : Int) κ = _
          rw [L_Model_goesOn_2_15, k6, w32_of (a := (dl : Int)) (by omega) (by omega), w32_of (a := (i : Int)) (by omega) (by omega), if_neg (by omega), hb, w32_of (a := 1) (by omega) (by omega), if_pos rfl]
          rfl
        · by_cases hc : κ 5 (30 + 4 * i + 3) = 1
          · refine ⟨(i + 1, κ), ?_, i + 1, rfl, by omega, fr, skip (ui.mp (Or.inr hc))⟩
            show L_Model_goesOn_2_15 u _ (n + 1) (i : Int) κ = _
            rw [L_Model_goesOn_2_15, k6, w32_of (a := (dl : Int)) (by omega) (by omega), w32_of (a := (i : Int)) (by omega) (by omega), if_neg (by omega), w32_of (a := 1) (by omega) (by omega), if_neg hb, m_dealAt, zC_I, zRd_ok (by omega) (by omega) (by omega), hc, w64_of (by omega) (by omega), if_pos rfl]
            rfl
          · have s0 : s (30 + 4 * i + 3) = 0 := by
              by_cases h0 : s (30 + 4 * i + 3) = 0
              · exact h0
              · exfalso
                rcases ui.mpr h0 with h1 | h1
                · exact hb h1
                · exact hc h1
            obtain ⟨⟨v0, v1⟩, vb⟩ := bit_or (f := u) (i := i) u0 u1 (by omega) (by omega)
            have fr2 : o_gf 2 κ (zUp κ 23 2 i) := ⟨fun c _ _ _ _ _ _ _ e23 _ => zUp_ne e23, fun k _ _ _ => by rw [zUp_ne (by decide)], fun k _ => by rw [zUp_ne (by decide), zUp_ne (by decide)]; exact ⟨rfl, rfl⟩, fun q hq => by rw [zUp_at, q_up_ne (by omega)]⟩
            have hcl : ∀ d : Nat, d < dl → q_sb (μ 2) i (s (30 + 4 * i + 2)) 1 s (30 + 4 * d + 3) = if d = i then 1 else s (30 + 4 * d + 3) := fun d hd => by
              rw [q_sb_k6 (by omega) (by omega) (by unfold q_k6; omega), if_neg (by omega)]
              by_cases hdi : d = i
              · rw [if_pos hdi, hdi, if_pos ⟨by decide, rfl⟩]
              · rw [if_neg hdi, if_neg (fun q => hdi (by omega))]
            obtain ⟨κ4, r4, f4, h4⟩ := o_go_3 (r := r) (u := zor u (zshl 1 i)) (s := q_sb (μ 2) i (s (30 + 4 * i + 2)) 1 s) (p := q_up p 2 i) (A := o_fd f i A) (μ := zUp κ 23 2 i) (j := 2 + 1) (by decide) h6 hdl hB0 hB1 (cκ.gf fr2) (fun q q0 q1 => by
                rw [zUp_at]
                by_cases hq : q = 2
                · rw [hq, q_up_at, q_up_at]; exact ⟨rfl, by omega, by omega⟩
                · rw [q_up_ne hq, q_up_ne hq, fr.2.2.2 q (by omega)]
                  exact hp q q0 (by omega)) (by
                rw [zUp_ne (by decide), zUp_ne (by decide), e2, e5]
                show _ = o_ps (μ 2) (μ 5) (q_up p 2 i) (2 + 1)
                rw [o_ps, o_ps_congr (p := p) 2 (fun q q0 q1 => q_up_ne (by omega)), ← hs]
                show _ = q_sb (μ 2) (q_up p 2 i 2) (s (30 + 4 * q_up p 2 i 2 + 2)) 1 s
                rw [q_up_at]) (fun d hd => by
                rw [hcl d hd]
                have := hD d hd
                split
                · omega
                · exact this) v0 v1 (fun d hd => by
                rw [hcl d hd, zUp_ne (by decide), e5, vb d (by omega) (by omega)]
                have ud := hu d hd
                by_cases hdi : d = i
                · rw [if_pos hdi]
                  exact ⟨fun _ => by decide, fun _ => Or.inl (Or.inl (by omega))⟩
                · rw [if_neg hdi, ← ud]
                  exact ⟨fun q => by
                    rcases q with (q | q) | q
                    · exact absurd q (by omega)
                    · exact Or.inl q
                    · exact Or.inr q, fun q => by
                    rcases q with q | q
                    · exact Or.inl (Or.inr q)
                    · exact Or.inr q⟩) (by omega) hL6 (by
                obtain ⟨a1, a2, a3⟩ := hh
                exact ⟨by rw [zUp_ne (by decide)]; exact a1, fun q q0 q1 => by rw [zUp_ne (by decide)]; exact a2 q q0 q1, a3⟩)
            refine ⟨(i + 1, κ4), ?_, i + 1, rfl, by omega, fr.tr (fr2.tr ⟨f4.1, f4.2.1, f4.2.2.1, fun q hq => f4.2.2.2 q (by omega)⟩), ?_⟩
            · show L_Model_goesOn_2_15 u _ (n + 1) (i : Int) κ = _
              rw [L_Model_goesOn_2_15, k6, w32_of (a := (dl : Int)) (by omega) (by omega), w32_of (a := (i : Int)) (by omega) (by omega), if_neg (by omega), w32_of (a := 1) (by omega) (by omega), if_neg hb, m_dealAt, zC_I, zRd_ok (by omega) (by omega) (by omega), w64_of (by omega) (by omega), w64_of (by omega) (by omega), if_neg hc, zWr_ok (by omega) (by omega) (by omega)]
              show zC (F_Model_goesOn_3 (zor u (zshl 1 i)) (zUp κ 23 2 i)) _ _ = _
              rw [r4, zC_V]
              rfl
            · simp only []
              rw [ef, ← hF]
              simp only []
              rw [if_pos s0, hF]
              rw [zUp_ne (by decide), e2] at h4
              exact h4) dl zN (0, μ) ⟨0, rfl, by omega, o_gf.rf _ _, hA⟩ (Nat.le_of_lt (zN_gt (by omega)))
    simp only [] at e hv fr hh
    obtain rfl : i = dl := by omega
    have eo : o_tr (μ 2) i (r + 1) 2 s p A = o_fd f i A := by rw [o_tr, hF]
    refine ⟨κ, ?_, fr, by rw [eo]; exact hh⟩
    have k6 : κ 0 6 = i := (c.gf fr).2.1
    unfold F_Model_goesOn_2
    rw [c39, w32_of (a := (L : Int)) (by omega) (by omega), w32_of (by omega) (by omega), if_neg (by omega)]
    refine e.trans ?_
    rw [hv]
    obtain ⟨n, hn⟩ : ∃ n, zN - i = n + 1 := ⟨zN - i - 1, by have := zN_gt (m := i) (by omega); omega⟩
    rw [hn]
    show L_Model_goesOn_2_15 u _ (n + 1) (i : Int) κ = _
    rw [L_Model_goesOn_2_15, k6, if_pos (Int.le_refl _)]
theorem o_go_1 {m dl L r : Nat} {B u : Int} {s p : Int → Int} {A : OA} {μ : ZMem} {j : Int} (hj : j = 1) (h6 : m ≤ 6) (hdl : dl ≤ 6) (hB0 : 0 ≤ B) (hB1 : B ≤ 764) (c : o_B m dl L B μ) (hp : ∀ i : Int, 0 ≤ i → i < j → μ 23 i = p i ∧ 0 ≤ p i ∧ p i < dl) (hs : s = o_ps (μ 2) (μ 5) p 1) (hD : ∀ d : Nat, d < dl → 0 ≤ s (30 + 4 * d + 3) ∧ s (30 + 4 * d + 3) ≤ 1) (u0 : 0 ≤ u) (u1 : u < 64) (hu : ∀ d : Nat, d < dl → ((w32 (zand (zshr u d) 1) = 1 ∨ μ 5 (30 + 4 * d + 3) = 1) ↔ s (30 + 4 * d + 3) ≠ 0)) (hL : (L : Int) = j + r) (hL6 : L ≤ 6) (hA : o_A L A μ) : ∃ μ', F_Model_goesOn_1 u μ = some (.inr none, μ') ∧ o_gf j μ μ' ∧ o_A L (o_tr (μ 2) dl r j s p A) μ' := by
  have c39 : μ 0 39 = L := c.2.2.2.1
  cases r with
  | zero =>
    obtain rfl : L = 1 := by omega
    obtain ⟨μ', r1, f1, h1⟩ := o_row h6 hdl hL6 hB0 hB1 c (fun i i0 i1 => hp i i0 (by omega)) hA
    refine ⟨μ', ?_, ?_, by rw [o_tr, hs]; exact h1⟩
    · unfold F_Model_goesOn_1
      rw [c39, w32_of (by omega) (by omega), w32_of (by omega) (by omega), if_pos (by omega), r1, zC_V]
    · rw [hj]; exact f1
  | succ r =>
    subst hj
    generalize hF : (fun (d : Nat) (A : OA) => if s (30 + 4 * (d : Int) + 3) = 0 then o_tr (μ 2) dl r (1 + 1) (q_sb (μ 2) d (s (30 + 4 * (d : Int) + 2)) 1 s) (q_up p 1 d) A else A) = f
    obtain ⟨⟨v, κ⟩, e, i, hv, hii, fr, hh⟩ := q_loop (L := fun n (b : Int × ZMem) => L_Model_goesOn_1_15 u (fun μ10 => some (.inr none, μ10)) n b.1 b.2) (P := fun k b => ∃ i : Nat, b.1 = i ∧ i + k = dl ∧ o_gf 1 μ b.2 ∧ o_A L (o_fd f i A) b.2) (fun n k b hb2 => by
        obtain ⟨v, κ⟩ := b
        obtain ⟨i, rfl, hii, fr, hh⟩ := hb2
        simp only [] at fr hh ⊢
        have cκ := c.gf fr
        have k6 : κ 0 6 = dl := cκ.2.1
        have ui := hu i (by omega)
        have di := hD i (by omega)
        have ef : o_fd f (i + 1) A = f i (o_fd f i A) := rfl
        have e5 : κ 5 = μ 5 := fr.c (by decide)
        have e2 : κ 2 = μ 2 := fr.c (by decide)
        have ci := c.2.2.2.2.1.2.1 i (by omega)
        rw [← e5] at ui ci
        have skip : ¬ s (30 + 4 * i + 3) = 0 → o_A L (o_fd f (i + 1) A) κ := fun h0 => by
          rw [ef, ← hF]
          simp only []
          rw [if_neg h0, hF]
          exact hh
        by_cases hb : w32 (zand (zshr u i) 1) = 1
        · refine ⟨(i + 1, κ), ?_, i + 1, rfl, by omega, fr, skip (ui.mp (Or.inl hb))⟩
          show L_Model_goesOn_1_15 u _ (n + 1) (i : Int) κ = _
          rw [L_Model_goesOn_1_15, k6, w32_of (a := (dl : Int)) (by omega) (by omega), w32_of (a := (i : Int)) (by omega) (by omega), if_neg (by omega), hb, w32_of (a := 1) (by omega) (by omega), if_pos rfl]
          rfl
        · by_cases hc : κ 5 (30 + 4 * i + 3) = 1
          · refine ⟨(i + 1, κ), ?_, i + 1, rfl, by omega, fr, skip (ui.mp (Or.inr hc))⟩
            show L_Model_goesOn_1_15 u _ (n + 1) (i : Int) κ = _
            rw [L_Model_goesOn_1_15, k6, w32_of (a := (dl : Int)) (by omega) (by omega), w32_of (a := (i : Int)) (by omega) (by omega), if_neg (by omega), w32_of (a := 1) (by omega) (by omega), if_neg hb, m_dealAt, zC_I, zRd_ok (by omega) (by omega) (by omega), hc, w64_of (by omega) (by omega), if_pos rfl]
            rfl
          · have s0 : s (30 + 4 * i + 3) = 0 := by
              by_cases h0 : s (30 + 4 * i + 3) = 0
              · exact h0
              · exfalso
                rcases ui.mpr h0 with h1 | h1
                · exact hb h1
                · exact hc h1
            obtain ⟨⟨v0, v1⟩, vb⟩ := bit_or (f := u) (i := i) u0 u1 (by omega) (by omega)
            have fr2 : o_gf 1 κ (zUp κ 23 1 i) := ⟨fun c _ _ _ _ _ _ _ e23 _ => zUp_ne e23, fun k _ _ _ => by rw [zUp_ne (by decide)], fun k _ => by rw [zUp_ne (by decide), zUp_ne (by decide)]; exact ⟨rfl, rfl⟩, fun q hq => by rw [zUp_at, q_up_ne (by omega)]⟩
            have hcl : ∀ d : Nat, d < dl → q_sb (μ 2) i (s (30 + 4 * i + 2)) 1 s (30 + 4 * d + 3) = if d = i then 1 else s (30 + 4 * d + 3) := fun d hd => by
              rw [q_sb_k6 (by omega) (by omega) (by unfold q_k6; omega), if_neg (by omega)]
              by_cases hdi : d = i
              · rw [if_pos hdi, hdi, if_pos ⟨by decide, rfl⟩]
              · rw [if_neg hdi, if_neg (fun q => hdi (by omega))]
            obtain ⟨κ4, r4, f4, h4⟩ := o_go_2 (r := r) (u := zor u (zshl 1 i)) (s := q_sb (μ 2) i (s (30 + 4 * i + 2)) 1 s) (p := q_up p 1 i) (A := o_fd f i A) (μ := zUp κ 23 1 i) (j := 1 + 1) (by decide) h6 hdl hB0 hB1 (cκ.gf fr2) (fun q q0 q1 => by
                rw [zUp_at]
                by_cases hq : q = 1
                · rw [hq, q_up_at, q_up_at]; exact ⟨rfl, by omega, by omega⟩
                · rw [q_up_ne hq, q_up_ne hq, fr.2.2.2 q (by omega)]
                  exact hp q q0 (by omega)) (by
                rw [zUp_ne (by decide), zUp_ne (by decide), e2, e5]
                show _ = o_ps (μ 2) (μ 5) (q_up p 1 i) (1 + 1)
                rw [o_ps, o_ps_congr (p := p) 1 (fun q q0 q1 => q_up_ne (by omega)), ← hs]
                show _ = q_sb (μ 2) (q_up p 1 i 1) (s (30 + 4 * q_up p 1 i 1 + 2)) 1 s
                rw [q_up_at]) (fun d hd => by
                rw [hcl d hd]
                have := hD d hd
                split
                · omega
                · exact this) v0 v1 (fun d hd => by
                rw [hcl d hd, zUp_ne (by decide), e5, vb d (by omega) (by omega)]
                have ud := hu d hd
                by_cases hdi : d = i
                · rw [if_pos hdi]
                  exact ⟨fun _ => by decide, fun _ => Or.inl (Or.inl (by omega))⟩
                · rw [if_neg hdi, ← ud]
                  exact ⟨fun q => by
                    rcases q with (q | q) | q
                    · exact absurd q (by omega)
                    · exact Or.inl q
                    · exact Or.inr q, fun q => by
                    rcases q with q | q
                    · exact Or.inl (Or.inr q)
                    · exact Or.inr q⟩) (by omega) hL6 (by
                obtain ⟨a1, a2, a3⟩ := hh
                exact ⟨by rw [zUp_ne (by decide)]; exact a1, fun q q0 q1 => by rw [zUp_ne (by decide)]; exact a2 q q0 q1, a3⟩)
            refine ⟨(i + 1, κ4), ?_, i + 1, rfl, by omega, fr.tr (fr2.tr ⟨f4.1, f4.2.1, f4.2.2.1, fun q hq => f4.2.2.2 q (by omega)⟩), ?_⟩
            · show L_Model_goesOn_1_15 u _ (n + 1) (i : Int) κ = _
              rw [L_Model_goesOn_1_15, k6, w32_of (a := (dl : Int)) (by omega) (by omega), w32_of (a := (i : Int)) (by omega) (by omega), if_neg (by omega), w32_of (a := 1) (by omega) (by omega), if_neg hb, m_dealAt, zC_I, zRd_ok (by omega) (by omega) (by omega), w64_of (by omega) (by omega), w64_of (by omega) (by omega), if_neg hc, zWr_ok (by omega) (by omega) (by omega)]
              show zC (F_Model_goesOn_2 (zor u (zshl 1 i)) (zUp κ 23 1 i)) _ _ = _
              rw [r4, zC_V]
              rfl
            · simp only []
              rw [ef, ← hF]
              simp only []
              rw [if_pos s0, hF]
              rw [zUp_ne (by decide), e2] at h4
              exact h4) dl zN (0, μ) ⟨0, rfl, by omega, o_gf.rf _ _, hA⟩ (Nat.le_of_lt (zN_gt (by omega)))
    simp only [] at e hv fr hh
    obtain rfl : i = dl := by omega
    have eo : o_tr (μ 2) i (r + 1) 1 s p A = o_fd f i A := by rw [o_tr, hF]
    refine ⟨κ, ?_, fr, by rw [eo]; exact hh⟩
    have k6 : κ 0 6 = i := (c.gf fr).2.1
    unfold F_Model_goesOn_1
    rw [c39, w32_of (a := (L : Int)) (by omega) (by omega), w32_of (by omega) (by omega), if_neg (by omega)]
    refine e.trans ?_
    rw [hv]
    obtain ⟨n, hn⟩ : ∃ n, zN - i = n + 1 := ⟨zN - i - 1, by have := zN_gt (m := i) (by omega); omega⟩
    rw [hn]
    show L_Model_goesOn_1_15 u _ (n + 1) (i : Int) κ = _
    rw [L_Model_goesOn_1_15, k6, if_pos (Int.le_refl _)]
theorem o_go_0 {m dl L r : Nat} {B u : Int} {s p : Int → Int} {A : OA} {μ : ZMem} {j : Int} (hj : j = 0) (h6 : m ≤ 6) (hdl : dl ≤ 6) (hB0 : 0 ≤ B) (hB1 : B ≤ 764) (c : o_B m dl L B μ) (hp : ∀ i : Int, 0 ≤ i → i < j → μ 23 i = p i ∧ 0 ≤ p i ∧ p i < dl) (hs : s = o_ps (μ 2) (μ 5) p 0) (hD : ∀ d : Nat, d < dl → 0 ≤ s (30 + 4 * d + 3) ∧ s (30 + 4 * d + 3) ≤ 1) (u0 : 0 ≤ u) (u1 : u < 64) (hu : ∀ d : Nat, d < dl → ((w32 (zand (zshr u d) 1) = 1 ∨ μ 5 (30 + 4 * d + 3) = 1) ↔ s (30 + 4 * d + 3) ≠ 0)) (hL : (L : Int) = j + r) (hL6 : L ≤ 6) (hA : o_A L A μ) : ∃ μ', F_Model_goesOn_0 u μ = some (.inr none, μ') ∧ o_gf j μ μ' ∧ o_A L (o_tr (μ 2) dl r j s p A) μ' := by
  have c39 : μ 0 39 = L := c.2.2.2.1
  cases r with
  | zero =>
    obtain rfl : L = 0 := by omega
    obtain ⟨μ', r1, f1, h1⟩ := o_row h6 hdl hL6 hB0 hB1 c (fun i i0 i1 => hp i i0 (by omega)) hA
    refine ⟨μ', ?_, ?_, by rw [o_tr, hs]; exact h1⟩
    · unfold F_Model_goesOn_0
      rw [c39, w32_of (by omega) (by omega), w32_of (by omega) (by omega), if_pos (by omega), r1, zC_V]
    · rw [hj]; exact f1
  | succ r =>
    subst hj
    generalize hF : (fun (d : Nat) (A : OA) => if s (30 + 4 * (d : Int) + 3) = 0 then o_tr (μ 2) dl r (0 + 1) (q_sb (μ 2) d (s (30 + 4 * (d : Int) + 2)) 1 s) (q_up p 0 d) A else A) = f
    obtain ⟨⟨v, κ⟩, e, i, hv, hii, fr, hh⟩ := q_loop (L := fun n (b : Int × ZMem) => L_Model_goesOn_0_15 u (fun μ10 => some (.inr none, μ10)) n b.1 b.2) (P := fun k b => ∃ i : Nat, b.1 = i ∧ i + k = dl ∧ o_gf 0 μ b.2 ∧ o_A L (o_fd f i A) b.2) (fun n k b hb2 => by
        obtain ⟨v, κ⟩ := b
        obtain ⟨i, rfl, hii, fr, hh⟩ := hb2
        simp only [] at fr hh ⊢
        have cκ := c.gf fr
        have k6 : κ 0 6 = dl := cκ.2.1
        have ui := hu i (by omega)
        have di := hD i (by omega)
        have ef : o_fd f (i + 1) A = f i (o_fd f i A) := rfl
        have e5 : κ 5 = μ 5 := fr.c (by decide)
        have e2 : κ 2 = μ 2 := fr.c (by decide)
        have ci := c.2.2.2.2.1.2.1 i (by omega)
        rw [← e5] at ui ci
        have skip : ¬ s (30 + 4 * i + 3) = 0 → o_A L (o_fd f (i + 1) A) κ := fun h0 => by
          rw [ef, ← hF]
          simp only []
          rw [if_neg h0, hF]
          exact hh
        by_cases hb : w32 (zand (zshr u i) 1) = 1
        · refine ⟨(i + 1, κ), ?_, i + 1, rfl, by omega, fr, skip (ui.mp (Or.inl hb))⟩
          show L_Model_goesOn_0_15 u _ (n + 1) (i : Int) κ = _
          rw [L_Model_goesOn_0_15, k6, w32_of (a := (dl : Int)) (by omega) (by omega), w32_of (a := (i : Int)) (by omega) (by omega), if_neg (by omega), hb, w32_of (a := 1) (by omega) (by omega), if_pos rfl]
          rfl
        · by_cases hc : κ 5 (30 + 4 * i + 3) = 1
          · refine ⟨(i + 1, κ), ?_, i + 1, rfl, by omega, fr, skip (ui.mp (Or.inr hc))⟩
            show L_Model_goesOn_0_15 u _ (n + 1) (i : Int) κ = _
            rw [L_Model_goesOn_0_15, k6, w32_of (a := (dl : Int)) (by omega) (by omega), w32_of (a := (i : Int)) (by omega) (by omega), if_neg (by omega), w32_of (a := 1) (by omega) (by omega), if_neg hb, m_dealAt, zC_I, zRd_ok (by omega) (by omega) (by omega), hc, w64_of (by omega) (by omega), if_pos rfl]
            rfl
          · have s0 : s (30 + 4 * i + 3) = 0 := by
              by_cases h0 : s (30 + 4 * i + 3) = 0
              · exact h0
              · exfalso
                rcases ui.mpr h0 with h1 | h1
                · exact hb h1
                · exact hc h1
            obtain ⟨⟨v0, v1⟩, vb⟩ := bit_or (f := u) (i := i) u0 u1 (by omega) (by omega)
            have fr2 : o_gf 0 κ (zUp κ 23 0 i) := ⟨fun c _ _ _ _ _ _ _ e23 _ => zUp_ne e23, fun k _ _ _ => by rw [zUp_ne (by decide)], fun k _ => by rw [zUp_ne (by decide), zUp_ne (by decide)]; exact ⟨rfl, rfl⟩, fun q hq => by rw [zUp_at, q_up_ne (by omega)]⟩
            have hcl : ∀ d : Nat, d < dl → q_sb (μ 2) i (s (30 + 4 * i + 2)) 1 s (30 + 4 * d + 3) = if d = i then 1 else s (30 + 4 * d + 3) := fun d hd => by
              rw [q_sb_k6 (by omega) (by omega) (by unfold q_k6; omega), if_neg (by omega)]
              by_cases hdi : d = i
              · rw [if_pos hdi, hdi, if_pos ⟨by decide, rfl⟩]
              · rw [if_neg hdi, if_neg (fun q => hdi (by omega))]
            obtain ⟨κ4, r4, f4, h4⟩ := o_go_1 (r := r) (u := zor u (zshl 1 i)) (s := q_sb (μ 2) i (s (30 + 4 * i + 2)) 1 s) (p := q_up p 0 i) (A := o_fd f i A) (μ := zUp κ 23 0 i) (j := 0 + 1) (by decide) h6 hdl hB0 hB1 (cκ.gf fr2) (fun q q0 q1 => by
                rw [zUp_at]
                by_cases hq : q = 0
                · rw [hq, q_up_at, q_up_at]; exact ⟨rfl, by omega, by omega⟩
                · rw [q_up_ne hq, q_up_ne hq, fr.2.2.2 q (by omega)]
                  exact hp q q0 (by omega)) (by
                rw [zUp_ne (by decide), zUp_ne (by decide), e2, e5]
                show _ = o_ps (μ 2) (μ 5) (q_up p 0 i) (0 + 1)
                rw [o_ps, o_ps_congr (p := p) 0 (fun q q0 q1 => q_up_ne (by omega)), ← hs]
                show _ = q_sb (μ 2) (q_up p 0 i 0) (s (30 + 4 * q_up p 0 i 0 + 2)) 1 s
                rw [q_up_at]) (fun d hd => by
                rw [hcl d hd]
                have := hD d hd
                split
                · omega
                · exact this) v0 v1 (fun d hd => by
                rw [hcl d hd, zUp_ne (by decide), e5, vb d (by omega) (by omega)]
                have ud := hu d hd
                by_cases hdi : d = i
                · rw [if_pos hdi]
                  exact ⟨fun _ => by decide, fun _ => Or.inl (Or.inl (by omega))⟩
                · rw [if_neg hdi, ← ud]
                  exact ⟨fun q => by
                    rcases q with (q | q) | q
                    · exact absurd q (by omega)
                    · exact Or.inl q
                    · exact Or.inr q, fun q => by
                    rcases q with q | q
                    · exact Or.inl (Or.inr q)
                    · exact Or.inr q⟩) (by omega) hL6 (by
                obtain ⟨a1, a2, a3⟩ := hh
                exact ⟨by rw [zUp_ne (by decide)]; exact a1, fun q q0 q1 => by rw [zUp_ne (by decide)]; exact a2 q q0 q1, a3⟩)
            refine ⟨(i + 1, κ4), ?_, i + 1, rfl, by omega, fr.tr (fr2.tr ⟨f4.1, f4.2.1, f4.2.2.1, fun q hq => f4.2.2.2 q (by omega)⟩), ?_⟩
            · show L_Model_goesOn_0_15 u _ (n + 1) (i : Int) κ = _
              rw [L_Model_goesOn_0_15, k6, w32_of (a := (dl : Int)) (by omega) (by omega), w32_of (a := (i : Int)) (by omega) (by omega), if_neg (by omega), w32_of (a := 1) (by omega) (by omega), if_neg hb, m_dealAt, zC_I, zRd_ok (by omega) (by omega) (by omega), w64_of (by omega) (by omega), w64_of (by omega) (by omega), if_neg hc, zWr_ok (by omega) (by omega) (by omega)]
              show zC (F_Model_goesOn_1 (zor u (zshl 1 i)) (zUp κ 23 0 i)) _ _ = _
              rw [r4, zC_V]
              rfl
            · simp only []
              rw [ef, ← hF]
              simp only []
              rw [if_pos s0, hF]
              rw [zUp_ne (by decide), e2] at h4
              exact h4) dl zN (0, μ) ⟨0, rfl, by omega, o_gf.rf _ _, hA⟩ (Nat.le_of_lt (zN_gt (by omega)))
    simp only [] at e hv fr hh
    obtain rfl : i = dl := by omega
    have eo : o_tr (μ 2) i (r + 1) 0 s p A = o_fd f i A := by rw [o_tr, hF]
    refine ⟨κ, ?_, fr, by rw [eo]; exact hh⟩
    have k6 : κ 0 6 = i := (c.gf fr).2.1
    unfold F_Model_goesOn_0
    rw [c39, w32_of (a := (L : Int)) (by omega) (by omega), w32_of (by omega) (by omega), if_neg (by omega)]
    refine e.trans ?_
    rw [hv]
    obtain ⟨n, hn⟩ : ∃ n, zN - i = n + 1 := ⟨zN - i - 1, by have := zN_gt (m := i) (by omega); omega⟩
    rw [hn]
    show L_Model_goesOn_0_15 u _ (n + 1) (i : Int) κ = _
    rw [L_Model_goesOn_0_15, k6, if_pos (Int.le_refl _)]
