/-! ===== face: patience ===== -/
def q_pt (g : Nat → Int) (x : Int) : Nat → Int
  | 0 => -1
  | n + 1 => if w64 (g n) < w64 (w32 x) then q_pt g x n else (n : Int)
section FR
variable {m dl a : Nat} {B d sum : Int} {tm ex s s' : Int → Int} {σ : QS} {κ μ ν : ZMem} {x y z : Int}
theorem zminI_eq {p q : Int} (h1 : q_i32 p) (h2 : q_i32 q) : zminI p q = q_min p q := by
  unfold zminI q_min
  rw [w32_of h1.1 h1.2, w32_of h2.1 h2.2]
  split <;> split <;> omega
theorem k_pat_loop {σ0 : QS} {N : Nat} (hs : s_T m dl tm ex σ0 (zVw plN κ)) (h0 : q_inv m dl B σ0.1) (hB0 : 0 ≤ B) (hB1 : B + 2 * (200 - σ0.1 90) ≤ 760) (h6 : m ≤ 6) (hdl : dl ≤ 6) (ht : q_tm tm) (hN : σ0.1 90 + N ≤ 200) (hN2 : N ≤ 60) (hb : b_bk dl tm σ0.1 (zVw plF κ)) (K : Int → ZMem → Option ZRes) : ∃ κ', L_Ledger_patience_79 x N K zN (-1) (q_sm (fun i => σ0.1 (5 * i + 1)) m) 0 κ = K (q_pt (fun n => q_sob tm dl (q_wn m tm ex n σ0).1 86) x (N + 1)) κ' ∧ (∀ c, c < 97 ∨ 109 ≤ c → κ' c = κ c) := by
  obtain ⟨⟨v2, v4, v6, κ1⟩, e, j, h6', hj, h4, h2, hb1, f1⟩ := q_loop (L := fun f (b : Int × Int × Int × ZMem) => L_Ledger_patience_79 x N K f b.1 b.2.1 b.2.2.1 b.2.2.2) (P := fun k b => ∃ j : Nat, b.2.2.1 = j ∧ j + k = N + 1 ∧ b.2.1 = q_sm (fun i => (q_wn m tm ex j σ0).1 (5 * i + 1)) m ∧ b.1 = q_pt (fun n => q_sob tm dl (q_wn m tm ex n σ0).1 86) x j ∧ b_bk dl tm (q_wn m tm ex j σ0).1 (zVw plF b.2.2.2) ∧ (∀ c, c < 97 ∨ 109 ≤ c → b.2.2.2 c = κ c)) (fun f k b h => by
      obtain ⟨v2, v4, v6, κ1⟩ := b
      obtain ⟨j, h6', hj, h4, h2, hb1, f1⟩ := h
      simp only [] at h6' h4 h2 hb1 f1 ⊢
      subst h6'
      subst h4
      subst h2
      obtain ⟨hi, h90⟩ := q_inv.wn (tm := tm) (ex := ex) h0 h6 hdl ht hB0 hB1 j (by omega)
      have h91 := hi.2.2.2.1.2.2.2.2.2
      obtain ⟨κ2, c2, b2, f2⟩ := k_fore1 hb1 (by omega)
      obtain ⟨ν3, r3, b3⟩ := b_sellAll b2 hi h6 hdl (by omega) (by omega) ht
      have f3 : ∀ c, c < 103 ∨ 109 ≤ c → zMg plO κ2 ν3 c = κ2 c := fun c hc => zMg_out (by simp only [List.mem_cons, List.not_mem_nil, or_false]; omega)
      have e107 : zMg plO κ2 ν3 107 0 = q_sob tm dl (q_wn m tm ex j σ0).1 86 := by
        rw [zMg_in (pl := plO) (c := 107) (j := 4) (by decide)]
        exact b3.2.2.2.2.1 0 (by decide) (by decide)
      generalize hκ : zMg plO κ2 ν3 = κ3 at *
      have fr3 : ∀ c, c < 103 ∨ 109 ≤ c → κ3 c = κ1 c := fun c hc => (f3 c hc).trans (f2 c hc)
      have hbF : b_bk dl tm (q_wn m tm ex j σ0).1 (zVw plF κ3) := hb1.cong (fr3 97 (by decide)) (fr3 98 (by decide)) (fr3 99 (by decide)) (fr3 100 (by decide)) (fr3 101 (by decide))
      obtain ⟨e1, e2, e3, κ4, e4, hb4, f4⟩ := k_fore (κ := κ3) (n := j) (hs.vw (κ' := κ3) (fun c hc => (fr3 c (by omega)).trans (f1 c (by omega)))) h0 hB0 hB1 h6 hdl ht (by omega) hbF
      have tail : ∀ u2, J_Ledger_patience_122 (fun v2 v4 v6 μ => L_Ledger_patience_79 x N K f v2 v4 v6 μ) K x u2 N (q_sm (fun i => (q_wn m tm ex j σ0).1 (5 * i + 1)) m) j κ3 = L_Ledger_patience_79 x N K f u2 (q_sm (fun i => (q_wn m tm ex (j + 1) σ0).1 (5 * i + 1)) m) ((j : Int) + 1) κ4 := fun u2 => by
        unfold J_Ledger_patience_122
        rw [e1, zLet_eq, zLet_eq, e2, e3, e4, zLet_eq]
      refine ⟨(q_pt (fun n => q_sob tm dl (q_wn m tm ex n σ0).1 86) x (j + 1), q_sm (fun i => (q_wn m tm ex (j + 1) σ0).1 (5 * i + 1)) m, (j : Int) + 1, κ4), ?_, j + 1, rfl, by omega, rfl, rfl, hb4, fun c hc => (f4 c (by omega)).trans ((fr3 c (by omega)).trans (f1 c hc))⟩
      rw [L_Ledger_patience_79, w32_of (by omega) (by omega), w32_of (a := (j : Int)) (by omega) (by omega), if_neg (by omega), c2, r3, zCm_J, hκ, zRd_ok (by decide) (by decide) (by decide), e107, q_pt]
      by_cases hc : w64 (q_sob tm dl (q_wn m tm ex j σ0).1 86) < w64 (w32 x)
      · rw [if_pos hc, if_pos hc]
        exact tail _
      · rw [if_neg hc, if_neg hc]
        exact tail _) (N + 1) zN (-1, q_sm (fun i => σ0.1 (5 * i + 1)) m, 0, κ) ⟨0, rfl, by omega, by rw [q_wn], rfl, by rw [q_wn]; exact hb, fun _ _ => rfl⟩ (Nat.le_of_lt (zN_gt (by omega)))
  simp only [] at e h6' h4 h2 hb1 f1
  obtain rfl : j = N + 1 := by omega
  refine ⟨κ1, ?_, f1⟩
  rw [e, h6', h2]
  obtain ⟨f, hf⟩ : ∃ f, zN - (N + 1) = f + 1 := ⟨zN - (N + 1) - 1, by have := zN_gt (m := N + 1) (by omega); omega⟩
  rw [hf, L_Ledger_patience_79, w32_of (by omega) (by omega), w32_of (by omega) (by omega), if_pos (by omega)]
/-- the reference's memory while it tries, at rest between two tries -/
def m_try (μ μ4 ν : ZMem) : Prop := ν 5 = μ 5 ∧ ν 6 = μ 6 ∧ ν 7 = μ 7 ∧ m_kp μ4 ν ∧ ν 0 14 = 60 ∧ ∀ k, k ≠ 60 → ν 9 k = μ4 9 k ∧ ν 10 k = μ4 10 k
theorem m_pat_loop {μ4 : ZMem} {N : Nat} (fe : Int → Int) (hf : q_fu m dl (μ 2) (μ 4) (μ 3)) (e2 : μ4 2 = μ 2) (e4 : μ4 4 = μ 4) (m5 : μ4 0 5 = m) (m6 : μ4 0 6 = dl) (g11 : ∀ k, 0 ≤ k → k < 92 → μ4 11 k = μ 5 k) (g12 : ∀ k, 0 ≤ k → k < 1206 → μ4 12 k = μ 6 k ∧ μ4 13 k = μ 7 k) (hi : q_inv m dl B (μ 5)) (zr : q_z 1206 (μ 6) ∧ q_z 1206 (μ 7)) (hB0 : 0 ≤ B) (hB1 : B + 2 * (200 - μ 5 90) ≤ 760) (hN : μ 5 90 + N ≤ 200) (hN2 : N ≤ 60) (K : Int → ZMem → Option ZRes) : ∀ (n fu : Nat) (ν : ZMem), n + 1 < fu → n ≤ N + 1 → m_try μ μ4 ν → ∃ ν', L_Model_patience_55 x K fu ((n : Int) - 1) 0 ν = K (q_pt (fun n => q_sob (μ 2) dl (q_wn m (μ 2) (μ 4) n (μ 5, μ 6, μ 7, fe)).1 86) x n) ν' ∧ m_try μ μ4 ν'
  | 0, fu + 1, ν, _, _, R => by
    refine ⟨ν, ?_, R⟩
    rw [L_Model_patience_55, w32_of (by omega) (by omega), if_pos (by omega)]
    rfl
  | n + 1, fu + 1, ν, h, hn, R => by
    have RR := R
    obtain ⟨R5, R6, R7, kp, R14, R9⟩ := RR
    have h6 := hf.1
    have hdl := hf.2.1
    have ht := hf.2.2.1
    obtain ⟨-, t2, -, t4, -, t05, t06, -⟩ := kp.at
    have ev : ((n + 1 : Nat) : Int) - 1 = n := by omega
    have en : μ 5 90 + n ≤ 200 := by omega
    obtain ⟨μ1, r1, kp1, e01, hσ1, h91, h101⟩ := m_waitP (μ := ν) (m := m) (dl := dl) (n := n) (c1 := x) (B := B) fe (t05.trans m5) h6 (t06.trans m6) hdl (by rw [t2, e2]; exact ht) (by rw [R5]; exact hi) hB0 (by rw [R5]; exact hB1) (by rw [R5]; exact en) (by omega) (fun μ12 => zC (F_Model_sellsOut μ12) (zkV (fun μ13 => zRd μ13 5 92 86 (fun x15 => if w64 x15 < w64 (w32 x) then (J_Model_patience_104 (fun v2 v3 μ => L_Model_patience_55 x K fu v2 v3 μ) K x n 0 μ13) else (J_Model_patience_104 (fun v2 v3 μ => L_Model_patience_55 x K fu v2 v3 μ) K x n 1 μ13)))) zX0)
    rw [t2, e2, t4, e4, R5, R6, R7] at hσ1
    obtain ⟨hσ1', p5, p6, p7⟩ := q_pair hσ1
    obtain ⟨hi1, h901⟩ := q_inv.wn (σ := (μ 5, μ 6, μ 7, fe)) (tm := μ 2) (ex := μ 4) hi h6 hdl ht hB0 hB1 n en
    have zz1 := q_zz.wn (tm := μ 2) (ex := μ 4) (σ := (μ 5, μ 6, μ 7, fe)) zr h6 n
    have hi1' : q_inv m dl (B + 2 * n) (μ1 5) := by rw [p5]; exact hi1
    have zz1' : q_zz (μ1 5, μ1 6, μ1 7, (q_wn m (μ 2) (μ 4) n (μ 5, μ 6, μ 7, fe)).2.2.2) := by rw [hσ1]; exact zz1
    obtain ⟨-, s2, -, s4, -, s05, s06, -⟩ := kp1.at
    obtain ⟨μ2, r2, kp2, a14, hσ2, h92⟩ := m_sellsOut (μ := μ1) (m := m) (dl := dl) (B := B + 2 * n) (q_wn m (μ 2) (μ 4) n (μ 5, μ 6, μ 7, fe)).2.2.2 (s05.trans (t05.trans m5)) h6 (s06.trans (t06.trans m6)) hdl hi1' zz1' (by omega) (by omega) (by rw [s2, t2, e2]; exact ht) (by rw [e01]; exact R14)
    rw [hσ1, s2, t2, e2, s4, t4, e4] at hσ2
    obtain ⟨hσ2', u5, u6, u7⟩ := q_pair hσ2
    have hok := q_so_ok (tm := μ 2) (ex := μ 4) hi1 zz1 h6 hdl ht (by omega) (by omega) dl (Nat.le_refl _)
    have hhi := q_so_hi (tm := μ 2) (ex := μ 4) (σ := q_wn m (μ 2) (μ 4) n (μ 5, μ 6, μ 7, fe)) h6 hdl (fun d hd => q_wg_pos hf hi1.1 (Nat.pos_of_ne_zero (fun h0 => by have := hf.2.2.2.2.1 h0; omega)) (Or.inr ⟨by omega, by omega⟩)) dl (Nat.le_refl _)
    have e86 : μ2 5 86 = q_sob (μ 2) dl (q_wn m (μ 2) (μ 4) n (μ 5, μ 6, μ 7, fe)).1 86 := by rw [u5]; exact hhi.1 86 (by decide)
    have kpA := kp.tr (kp1.tr kp2)
    obtain ⟨μ3, r3, f3, h5, h6', h7⟩ := m_comesBack (μ := μ2) (s := μ 5) (p := μ 6) (g := μ 7) (fun k k0 k1 => by rw [kpA.1 11 (by decide) (by decide) (by decide) (by decide) (by decide) (by decide) (by decide) (by decide) (by decide) (by decide)]; exact g11 k k0 k1) (fun k k0 k1 => by
      rw [kpA.1 12 (by decide) (by decide) (by decide) (by decide) (by decide) (by decide) (by decide) (by decide) (by decide) (by decide), kpA.1 13 (by decide) (by decide) (by decide) (by decide) (by decide) (by decide) (by decide) (by decide) (by decide) (by decide)]
      exact g12 k k0 k1) (by rw [u5]; exact fun k hk => hok.1.2.2.2.2 k hk) (by rw [u6]; exact hok.2.1) (by rw [u7]; exact hok.2.2) (fun k hk => hi.2.2.2.2 k hk) zr.1 zr.2
    have R' : m_try μ μ4 μ3 := by
      refine ⟨h5, h6', h7, ⟨fun c c0 c5 c6 c7 c9 c10 c19 c20 c21 c22 => (f3 c c5 c6 c7).trans (kpA.1 c c0 c5 c6 c7 c9 c10 c19 c20 c21 c22), fun k k14 k35 k36 => by rw [f3 0 (by decide) (by decide) (by decide)]; exact kpA.2 k k14 k35 k36⟩, by rw [f3 0 (by decide) (by decide) (by decide)]; exact a14, fun k hk => ?_⟩
      rw [f3 9 (by decide) (by decide) (by decide), f3 10 (by decide) (by decide) (by decide), (h92 k hk).1, (h92 k hk).2, h91, h101]
      exact R9 k hk
    have eL : L_Model_patience_55 x K (fu + 1) (n : Int) 0 ν = if w64 (μ2 5 86) < w64 (w32 x) then (J_Model_patience_104 (fun v2 v3 μ => L_Model_patience_55 x K fu v2 v3 μ) K x n 0 μ2) else (J_Model_patience_104 (fun v2 v3 μ => L_Model_patience_55 x K fu v2 v3 μ) K x n 1 μ2) := by
      rw [L_Model_patience_55, w32_of (by omega) (by omega), if_neg (by omega), w32_of (by decide) (by decide), if_pos rfl]
      refine r1.trans ?_
      rw [r2, zC_V, zRd_ok (by decide) (by decide) (by decide)]
    rw [ev, eL, e86, q_pt]
    by_cases hc : w64 (q_sob (μ 2) dl (q_wn m (μ 2) (μ 4) n (μ 5, μ 6, μ 7, fe)).1 86) < w64 (w32 x)
    · rw [if_pos hc, if_pos hc]
      obtain ⟨ν', e', R''⟩ := m_pat_loop fe hf e2 e4 m5 m6 g11 g12 hi zr hB0 hB1 hN hN2 K n fu μ3 (by omega) (by omega) R'
      refine ⟨ν', ?_, R''⟩
      rw [← e']
      unfold J_Model_patience_104 J_Model_patience_119
      rw [r3, zC_V, w32_of (by decide) (by decide), if_pos rfl, zLet_eq]
    · rw [if_neg hc, if_neg hc]
      refine ⟨μ3, ?_, R'⟩
      obtain ⟨f2, rfl⟩ : ∃ f2, fu = f2 + 1 := ⟨fu - 1, by omega⟩
      unfold J_Model_patience_104 J_Model_patience_119
      rw [r3, zC_V, w32_of (by decide) (by decide), if_neg (by decide), zLet_eq, Int.sub_zero]
      show L_Model_patience_55 x K (f2 + 1) (n : Int) 1 μ3 = _
      rw [L_Model_patience_55, w32_of (by omega) (by omega), if_neg (by omega), w32_of (by decide) (by decide), if_neg (by decide)]
theorem face_patience (h : z_rest m dl a κ μ) (hx : q_i32 x) : z_face [(eIAE, 1)] m dl a κ μ (F_Ledger_patience x κ) (F_Model_patience x μ) := by
  obtain ⟨hf, h6, hdl, ht, ⟨m5, m6, m11, ha⟩, ⟨k3, k4, k11⟩, hi, hq, hs⟩ := h.all
  obtain ⟨M, C⟩ := h
  have hb : b_bk dl (μ 2) (μ 5) (zVw plNB κ) := hs.1.1
  have hr : r_rg m (μ 4) (μ 5) (zVw plNR κ) := hs.1.2
  have e6 : κ 14 6 = μ 5 90 := hb.2.2.2.2.2.2.1
  obtain ⟨x1, x2⟩ := hx
  by_cases gx : 0 ≤ x ∧ x ≤ 99999
  · have hmn := q_min_le 60 (200 - μ 5 90)
    have hmn0 := q_min_nn (a := 60) (b := 200 - μ 5 90) (by decide) (by omega)
    obtain ⟨N, hN⟩ := Int.eq_ofNat_of_zero_le hmn0
    have hB1 : 6 * (a : Int) + 2 * μ 5 90 + 2 * (200 - μ 5 90) ≤ 760 := by omega
    -- the class
    have ea := r_allOf2 hr hi.1 h6
    obtain ⟨κ1, c1, b1, f1⟩ := k_fore0 hb (z_ev91 hi)
    have hs1 := hs.vw (κ' := κ1) (fun c hc => f1 c (by omega))
    obtain ⟨κ2, c2, f2⟩ := k_pat_loop (σ0 := (μ 5, μ 6, μ 7, (q_run m (μ 2) (μ 4) (μ 3) (μ 8) a).2.2.2)) (x := x) (N := N) hs1 hi (by omega) hB1 h6 hdl ht (by simp only []; omega) (by omega) b1 (fun k19 μ18 => some (.inr (some (zI k19)), μ18))
    have hcf : c_fr κ κ2 := c_fr.of (fun c hc => (f2 c (by omega)).trans (f1 c (by omega)))
    -- the reference
    obtain ⟨μ4, r4, f4, g11, g12⟩ := m_putsAside (zUp μ 0 0 0)
    have nn : ∀ c, 1 ≤ c → c ≤ 10 ∨ c = 14 ∨ c = 15 → μ4 c = μ c := fun c c0 c1 => by rw [f4 c (by omega) (by omega) (by omega), zUp_ne (by omega)]
    have n0 : ∀ k, k ≠ 0 → μ4 0 k = μ 0 k := fun k hk => by rw [f4 0 (by decide) (by decide) (by decide), zUp_at, q_up_ne hk]
    have n00 : μ4 0 0 = 0 := by rw [f4 0 (by decide) (by decide) (by decide), zUp_at, q_up_at]
    have zr : q_z 92 (μ 5) ∧ q_z 1206 (μ 6) ∧ q_z 1206 (μ 7) ∧ μ 0 14 = 60 := M.1.2.2.2
    have g11' : ∀ k, 0 ≤ k → k < 92 → μ4 11 k = μ 5 k := fun k k0 k1 => by rw [g11 k k0 k1, zUp_ne (by decide)]
    have g12' : ∀ k, 0 ≤ k → k < 1206 → μ4 12 k = μ 6 k ∧ μ4 13 k = μ 7 k := fun k k0 k1 => by
      rw [(g12 k k0 k1).1, (g12 k k0 k1).2, zUp_ne (by decide), zUp_ne (by decide)]
      exact ⟨rfl, rfl⟩
    obtain ⟨μ5, r5, R5, R6, R7, kp, R14, R9⟩ := m_pat_loop (μ := μ) (μ4 := μ4) (x := x) (N := N) (q_run m (μ 2) (μ 4) (μ 3) (μ 8) a).2.2.2 hf (nn 2 (by decide) (by decide)) (nn 4 (by decide) (by decide)) ((n0 5 (by decide)).trans m5) ((n0 6 (by decide)).trans m6) g11' g12' hi ⟨zr.2.1, zr.2.2.1⟩ (by omega) hB1 (by omega) (by omega) (fun k20 μ19 => some (.inr (some (zI k20)), μ19)) (N + 1) zN μ4 (zN_gt (by omega)) (Nat.le_refl _) ⟨nn 5 (by decide) (by decide), nn 6 (by decide) (by decide), nn 7 (by decide) (by decide), m_kp.rf μ4, (n0 14 (by decide)).trans zr.2.2.2, fun _ _ => ⟨rfl, rfl⟩⟩
    have ec : ∀ c, 1 ≤ c → (c ≤ 8 ∨ c = 14 ∨ c = 15) → μ5 c = μ c := fun c c0 c1 => by
      by_cases h5c : c = 5
      · rw [h5c]; exact R5
      · by_cases h6c : c = 6
        · rw [h6c]; exact R6
        · by_cases h7c : c = 7
          · rw [h7c]; exact R7
          · rw [kp.1 c (by omega) h5c h6c h7c (by omega) (by omega) (by omega) (by omega) (by omega) (by omega)]
            exact nn c c0 (by omega)
    have hat : m_at m dl a μ5 := M.cong9 ha (fun c c0 c1 => ec c (by omega) (Or.inl c1)) (fun k hk => by
        rw [(R9 k hk).1, (R9 k hk).2, nn 9 (by decide) (by decide), nn 10 (by decide) (by decide)]
        exact ⟨rfl, rfl⟩) (fun k hk => by
        by_cases hk14 : k = 14
        · rw [hk14, R14]; exact zr.2.2.2.symm
        · rw [kp.2 k hk14 (by omega) (by omega), n0 k (by omega)])
    have hfr : m_fr μ μ5 := ⟨fun c hc => ec c (by omega) (by omega), fun k hk => by rw [kp.2 k (by omega) (by omega) (by omega), n0 k (by omega)]⟩
    have h00 : μ5 0 0 = 0 := by rw [kp.2 0 (by decide) (by decide) (by decide)]; exact n00
    refine z_face.ok (v := zI (q_pt (fun n => q_sob (μ 2) dl (q_wn m (μ 2) (μ 4) n (μ 5, μ 6, μ 7, (q_run m (μ 2) (μ 4) (μ 3) (μ 8) a).2.2.2)).1 86) x (N + 1))) (κ' := κ2) (μ' := μ5) ?_ ?_ hcf hfr hat h00
    · unfold F_Ledger_patience
      rw [w32_of x1 x2, if_neg (by omega), w32_of (by decide) (by decide), if_pos gx.2, zLet_eq, e6, zminI_eq (by unfold q_i32; omega) (by unfold q_i32; omega), hN, ea, zCm_J, zMg_vw, c1]
      exact c2
    · have ev : ((N + 1 : Nat) : Int) - 1 = N := by omega
      rw [ev] at r5
      unfold F_Model_patience J_Model_patience_18
      rw [w32_of x1 x2, z_isInY gx.1 gx.2 (by decide) (by decide), zC_I, w32_of (by decide) (by decide), if_neg (by decide), zLet_eq, zUp_at, q_up_at, w32_of (by decide) (by decide), if_pos (by decide), r4, zC_V, zRd_ok (by decide) (by decide) (by decide), nn 5 (by decide) (by decide), m_lesser (by decide) (by decide) (by omega) (by omega), zC_J, hN]
      exact r5
  · refine z_face.th (v := zI 0) (E := eIAE) (n := 1) M ?_ ?_ (by decide) (by decide +kernel)
    · unfold F_Ledger_patience J_Ledger_patience_10
      by_cases h0 : x < 0
      · simp (disch := omega) only [Int.add_zero, Int.mul_zero, Int.reduceMul, Int.reduceAdd, Int.mul_one, Int.tdiv_eq_ediv_of_nonneg, Int.tmod_eq_emod_of_nonneg, ↓reduceIte, ↓zLet_eq, ↓zRd_ok, ↓zWr_ok, ↓zC_V, ↓zC_I, ↓zC_J, zUp_at, zUp_ne, q_up_at, q_up_ne, w32_of, w64_of, q_le_T, q_le_F, q_lt_T, q_lt_F, q_eq_T, q_eq_F, true_or, or_true, or_false, false_or, false_and, and_false]
      · simp (disch := omega) only [Int.add_zero, Int.mul_zero, Int.reduceMul, Int.reduceAdd, Int.mul_one, Int.tdiv_eq_ediv_of_nonneg, Int.tmod_eq_emod_of_nonneg, ↓reduceIte, ↓zLet_eq, ↓zRd_ok, ↓zWr_ok, ↓zC_V, ↓zC_I, ↓zC_J, zUp_at, zUp_ne, q_up_at, q_up_ne, w32_of, w64_of, q_le_T, q_le_F, q_lt_T, q_lt_F, q_eq_T, q_eq_F, true_or, or_true, or_false, false_or, false_and, and_false]
    · unfold F_Model_patience J_Model_patience_18
      simp (disch := omega) only [Int.add_zero, Int.mul_zero, Int.reduceMul, Int.reduceAdd, Int.mul_one, Int.tdiv_eq_ediv_of_nonneg, Int.tmod_eq_emod_of_nonneg, ↓reduceIte, ↓zLet_eq, ↓zRd_ok, ↓zWr_ok, ↓zC_V, ↓zC_I, ↓zC_J, zUp_at, zUp_ne, q_up_at, q_up_ne, w32_of, w64_of, q_le_T, q_le_F, q_lt_T, q_lt_F, q_eq_T, q_eq_F, true_or, or_true, or_false, false_or, false_and, and_false, z_isInN]
end FR
