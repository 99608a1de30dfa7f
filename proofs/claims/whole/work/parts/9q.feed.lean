/-! ===== feed, end, fault ===== -/
theorem zand_255 (x : Int) : 0 ≤ zand x 255 ∧ zand x 255 ≤ 255 := by
  have h : (Int32.ofInt x &&& Int32.ofInt 255).toBitVec.toNat ≤ 255 := by
    show ((Int32.ofInt x).toBitVec &&& (Int32.ofInt 255).toBitVec).toNat ≤ 255
    rw [BitVec.toNat_and]
    exact Nat.le_trans Nat.and_le_right (by decide)
  have e : zand x 255 = ((Int32.ofInt x &&& Int32.ofInt 255).toBitVec.toNat : Int) := by
    show (Int32.ofInt x &&& Int32.ofInt 255).toBitVec.toInt = _
    exact BitVec.toInt_eq_toNat_of_lt (by omega)
  omega
section TZ
variable {m dl a : Nat} {κ μ ν κ' μ' : ZMem} {x l : Int}
theorem z_all.tp (h : z_all m dl a κ μ) (hk : ∀ c, c = 0 ∨ (3 ≤ c ∧ c < 33) ∨ 109 ≤ c → κ' c = κ c) (hm : ∀ c, (1 ≤ c ∧ c ≤ 10) ∨ c = 14 → μ' c = μ c) (h0 : ∀ k, k = 5 ∨ k = 6 ∨ k = 11 ∨ k = 14 ∨ k = 19 → μ' 0 k = μ 0 k) (tp : z_tp κ' μ') : z_all m dl a κ' μ' := by
  obtain ⟨⟨M, C⟩, hT, hZ, -, hI⟩ := h
  refine ⟨⟨M.cong (fun c c0 c1 => hm c (by omega)) (fun k hk => h0 k (by omega)), ?_⟩, fun k hk => ?_, ?_, tp, ?_⟩
  · rw [hm 2 (by decide), hm 3 (by decide), hm 4 (by decide), hm 8 (by decide)]
    exact C.cg (fun c c0 c1 => hk c (by omega))
  · rw [hm 1 (by decide)]; exact hT k hk
  · unfold m_zz
    rw [hm 2 (by decide), hm 3 (by decide), hm 4 (by decide), hm 8 (by decide)]
    exact hZ
  · unfold z_im
    rw [hk 0 (by decide), hk 109 (by decide), hk 110 (by decide), hk 111 (by decide), hk 112 (by decide), hk 113 (by decide), hk 114 (by decide), hm 14 (by decide), h0 19 (by decide)]
    exact hI
theorem x_append (h : ν 0 1 = l) (l0 : 0 ≤ l) (l1 : l + 4 ≤ 400) : ∃ ν', F_Text_append x ν = some (.inr none, ν') ∧ ν' 0 1 = l + 4 ∧ (∀ k, k ≠ 1 → ν' 0 k = ν 0 k) ∧ (∀ i, i < l → ν' 1 i = ν 1 i) ∧ (ν' 1 l = zand (zushr x 24) 255 ∧ ν' 1 (l + 1) = zand (zushr x 16) 255 ∧ ν' 1 (l + 2) = zand (zushr x 8) 255 ∧ ν' 1 (l + 3) = zand (zushr x 0) 255) := by
  obtain ⟨n, hn⟩ : ∃ n, zN = n + 5 := ⟨zN - 5, by have := zN_gt (m := 5) (by omega); omega⟩
  have step : ∀ (n : Nat) (v q : Int) (ν : ZMem) (K : ZMem → Option ZRes), ν 0 1 = q → 0 ≤ q → q < 400 → 0 ≤ v → v ≤ 24 → L_Text_append_3 x K (n + 1) v ν = L_Text_append_3 x K n (v + (-8)) (zUp (zUp ν 1 q (zand (zushr x v) 255)) 0 1 (q + 1)) := fun n v q ν K hq q0 q1 v0 v1 => by
    unfold L_Text_append_3 J_Text_append_43
    rw [w32_of (by omega) (by omega), if_neg (by omega), hq, w32_of (by decide) (by decide), w32_of (by omega) (by omega), if_neg (by omega), zWr_ok (by omega) (by omega) (by omega), zLet_eq, zUp_ne (by decide), hq, zLet_eq]
    cases n <;> rfl
  refine ⟨zUp (zUp (zUp (zUp (zUp (zUp (zUp (zUp ν 1 l (zand (zushr x 24) 255)) 0 1 (l + 1)) 1 (l + 1) (zand (zushr x 16) 255)) 0 1 (l + 1 + 1)) 1 (l + 1 + 1) (zand (zushr x 8) 255)) 0 1 (l + 1 + 1 + 1)) 1 (l + 1 + 1 + 1) (zand (zushr x 0) 255)) 0 1 (l + 1 + 1 + 1 + 1), ?_, ?_, fun k hk => ?_, fun i hi => ?_, ?_, ?_, ?_, ?_⟩
  · unfold F_Text_append
    rw [hn, step (n + 4) 24 l ν _ h l0 (by omega) (by decide) (by decide), step (n + 3) _ (l + 1) _ _ (by rw [zUp_at, q_up_at]) (by omega) (by omega) (by decide) (by decide), step (n + 2) _ (l + 1 + 1) _ _ (by rw [zUp_at, q_up_at]) (by omega) (by omega) (by decide) (by decide), step (n + 1) _ (l + 1 + 1 + 1) _ _ (by rw [zUp_at, q_up_at]) (by omega) (by omega) (by decide) (by decide)]
    rfl
  · rw [zUp_at, q_up_at]; omega
  · simp (disch := omega) only [zUp_at, zUp_ne, q_up_ne, ne_eq]
  · simp (disch := omega) only [zUp_at, zUp_ne, q_up_ne, ne_eq]
  · simp (disch := omega) only [zUp_at, zUp_ne, q_up_ne, q_up_at, ne_eq]
  · simp (disch := omega) only [zUp_at, zUp_ne, q_up_ne, q_up_at, ne_eq]
  · rw [show l + 2 = l + 1 + 1 by omega]
    simp (disch := omega) only [zUp_at, zUp_ne, q_up_ne, q_up_at, ne_eq]
  · rw [show l + 3 = l + 1 + 1 + 1 by omega]
    simp (disch := omega) only [zUp_at, zUp_ne, q_up_ne, q_up_at, ne_eq]
abbrev plX : List Nat := [1, 2]
theorem k_append (h : κ 1 1 = l) (l0 : 0 ≤ l) (l1 : l + 4 ≤ 400) : ∃ κ', (∀ K X, zCm plX κ (F_Text_append x (zVw plX κ)) (zkV K) X = K κ') ∧ κ' 1 1 = l + 4 ∧ (∀ k, k ≠ 1 → κ' 1 k = κ 1 k) ∧ (∀ c, c ≠ 1 → c ≠ 2 → κ' c = κ c) ∧ (∀ i, i < l → κ' 2 i = κ 2 i) ∧ (κ' 2 l = zand (zushr x 24) 255 ∧ κ' 2 (l + 1) = zand (zushr x 16) 255 ∧ κ' 2 (l + 2) = zand (zushr x 8) 255 ∧ κ' 2 (l + 3) = zand (zushr x 0) 255) := by
  obtain ⟨ν', r, h1, h2, h3, h4⟩ := x_append (x := x) (ν := zVw plX κ) h l0 l1
  refine ⟨zMg plX κ ν', fun K X => by rw [r, zCm_V], ?_, fun k hk => ?_, fun c c1 c2 => ?_, fun i hi => ?_, ?_⟩
  · rw [zMg_in (pl := plX) (c := 1) (j := 0) (by decide)]; exact h1
  · rw [zMg_in (pl := plX) (c := 1) (j := 0) (by decide)]; exact h2 k hk
  · exact zMg_out (by simp only [List.mem_cons, List.not_mem_nil, or_false]; omega)
  · rw [zMg_in (pl := plX) (c := 2) (j := 1) (by decide)]; exact h3 i hi
  · rw [zMg_in (pl := plX) (c := 2) (j := 1) (by decide)]; exact h4
def q_bt (a1 a2 a3 a4 a5 : Int) (q : Int) : Int := zand (zushr (if q < 4 then a1 else if q < 8 then a2 else if q < 12 then a3 else if q < 16 then a4 else a5) (24 - 8 * (q % 4))) 255
variable {a1 a2 a3 a4 a5 : Int}
theorem k_feed (h : κ 1 1 = l) (l0 : 0 ≤ l) (l1 : l + 20 ≤ 400) : ∃ κ', F_Ledger_feed a1 a2 a3 a4 a5 κ = some (.inr (some (zI (l + 20))), κ') ∧ κ' 1 1 = l + 20 ∧ (∀ k, k ≠ 1 → κ' 1 k = κ 1 k) ∧ (∀ c, c ≠ 1 → c ≠ 2 → κ' c = κ c) ∧ (∀ i, i < l → κ' 2 i = κ 2 i) ∧ (∀ q, 0 ≤ q → q < 20 → κ' 2 (l + q) = q_bt a1 a2 a3 a4 a5 q) := by
  obtain ⟨κ1, r1, g1, k1, o1, b1, t1⟩ := k_append (x := a1) h l0 (by omega)
  obtain ⟨κ2, r2, g2, k2, o2, b2, t2⟩ := k_append (x := a2) g1 (by omega) (by omega)
  obtain ⟨κ3, r3, g3, k3, o3, b3, t3⟩ := k_append (x := a3) g2 (by omega) (by omega)
  obtain ⟨κ4, r4, g4, k4, o4, b4, t4⟩ := k_append (x := a4) g3 (by omega) (by omega)
  obtain ⟨κ5, r5, g5, k5, o5, b5, t5⟩ := k_append (x := a5) g4 (by omega) (by omega)
  refine ⟨κ5, ?_, by rw [g5]; omega, fun k hk => by rw [k5 k hk, k4 k hk, k3 k hk, k2 k hk, k1 k hk], fun c c1 c2 => by rw [o5 c c1 c2, o4 c c1 c2, o3 c c1 c2, o2 c c1 c2, o1 c c1 c2], fun i hi => by rw [b5 i (by omega), b4 i (by omega), b3 i (by omega), b2 i (by omega), b1 i hi], fun q q0 q1 => ?_⟩
  · unfold F_Ledger_feed
    rw [h, w32_of (by omega) (by omega), w32_of (by decide) (by decide), if_pos l1, r1, r2, r3, r4, r5, g5, show l + 4 + 4 + 4 + 4 + 4 = l + 20 by omega]
  · have cs : q = 0 ∨ q = 1 ∨ q = 2 ∨ q = 3 ∨ q = 4 ∨ q = 5 ∨ q = 6 ∨ q = 7 ∨ q = 8 ∨ q = 9 ∨ q = 10 ∨ q = 11 ∨ q = 12 ∨ q = 13 ∨ q = 14 ∨ q = 15 ∨ q = 16 ∨ q = 17 ∨ q = 18 ∨ q = 19 := by omega
    rcases cs with rfl | rfl | rfl | rfl | rfl | rfl | rfl | rfl | rfl | rfl | rfl | rfl | rfl | rfl | rfl | rfl | rfl | rfl | rfl | rfl
    · rw [b5 _ (by omega), b4 _ (by omega), b3 _ (by omega), b2 _ (by omega), Int.add_zero]; exact t1.1
    · rw [b5 _ (by omega), b4 _ (by omega), b3 _ (by omega), b2 _ (by omega)]; exact t1.2.1
    · rw [b5 _ (by omega), b4 _ (by omega), b3 _ (by omega), b2 _ (by omega)]; exact t1.2.2.1
    · rw [b5 _ (by omega), b4 _ (by omega), b3 _ (by omega), b2 _ (by omega)]; exact t1.2.2.2
    · rw [b5 _ (by omega), b4 _ (by omega), b3 _ (by omega)]; exact t2.1
    · rw [b5 _ (by omega), b4 _ (by omega), b3 _ (by omega), show l + 5 = l + 4 + 1 by omega]; exact t2.2.1
    · rw [b5 _ (by omega), b4 _ (by omega), b3 _ (by omega), show l + 6 = l + 4 + 2 by omega]; exact t2.2.2.1
    · rw [b5 _ (by omega), b4 _ (by omega), b3 _ (by omega), show l + 7 = l + 4 + 3 by omega]; exact t2.2.2.2
    · rw [b5 _ (by omega), b4 _ (by omega), show l + 8 = l + 4 + 4 by omega]; exact t3.1
    · rw [b5 _ (by omega), b4 _ (by omega), show l + 9 = l + 4 + 4 + 1 by omega]; exact t3.2.1
    · rw [b5 _ (by omega), b4 _ (by omega), show l + 10 = l + 4 + 4 + 2 by omega]; exact t3.2.2.1
    · rw [b5 _ (by omega), b4 _ (by omega), show l + 11 = l + 4 + 4 + 3 by omega]; exact t3.2.2.2
    · rw [b5 _ (by omega), show l + 12 = l + 4 + 4 + 4 by omega]; exact t4.1
    · rw [b5 _ (by omega), show l + 13 = l + 4 + 4 + 4 + 1 by omega]; exact t4.2.1
    · rw [b5 _ (by omega), show l + 14 = l + 4 + 4 + 4 + 2 by omega]; exact t4.2.2.1
    · rw [b5 _ (by omega), show l + 15 = l + 4 + 4 + 4 + 3 by omega]; exact t4.2.2.2
    · rw [show l + 16 = l + 4 + 4 + 4 + 4 by omega]; exact t5.1
    · rw [show l + 17 = l + 4 + 4 + 4 + 4 + 1 by omega]; exact t5.2.1
    · rw [show l + 18 = l + 4 + 4 + 4 + 4 + 2 by omega]; exact t5.2.2.1
    · rw [show l + 19 = l + 4 + 4 + 4 + 4 + 3 by omega]; exact t5.2.2.2
theorem m_feed (h : μ 0 21 = l) (l0 : 0 ≤ l) (l1 : l + 20 ≤ 400) (K : ZMem → Option ZRes) : ∃ μ', L_Model_feed_23 a1 a2 a3 a4 a5 K zN 0 μ = K μ' ∧ μ' 0 21 = l + 20 ∧ (∀ k, k ≠ 21 → μ' 0 k = μ 0 k) ∧ (∀ c, c ≠ 0 → c ≠ 15 → μ' c = μ c) ∧ (∀ i, i < l → μ' 15 i = μ 15 i) ∧ (∀ q, 0 ≤ q → q < 20 → μ' 15 (l + q) = q_bt a1 a2 a3 a4 a5 q) := by
  obtain ⟨⟨v, ν⟩, e, i, hv, hii, k1, k2, k3, k4, k5⟩ := q_loop (L := fun n (b : Int × ZMem) => L_Model_feed_23 a1 a2 a3 a4 a5 K n b.1 b.2) (P := fun k b => ∃ i : Nat, b.1 = i ∧ i + k = 20 ∧ b.2 0 21 = l + i ∧ (∀ k, k ≠ 21 → b.2 0 k = μ 0 k) ∧ (∀ c, c ≠ 0 → c ≠ 15 → b.2 c = μ c) ∧ (∀ i, i < l → b.2 15 i = μ 15 i) ∧ (∀ q : Int, 0 ≤ q → q < i → b.2 15 (l + q) = q_bt a1 a2 a3 a4 a5 q)) (fun n k b hb => by
      obtain ⟨v, ν⟩ := b
      obtain ⟨i, rfl, hii, k1, k2, k3, k4, k5⟩ := hb
      simp only [] at k1 k2 k3 k4 k5 ⊢
      refine ⟨((i : Int) + 1, zUp (zUp ν 15 (l + i) (q_bt a1 a2 a3 a4 a5 i)) 0 21 (l + i + 1)), ?_, i + 1, rfl, by omega, ?_, fun k hk => ?_, fun c c0 c1 => ?_, fun q hq => ?_, fun q q0 q1 => ?_⟩
      · have j76 : ∀ y0, J_Model_feed_76 (fun v6 μ => L_Model_feed_23 a1 a2 a3 a4 a5 K n v6 μ) K a1 a2 a3 a4 a5 i y0 ν = L_Model_feed_23 a1 a2 a3 a4 a5 K n ((i : Int) + 1) (zUp (zUp ν 15 (l + i) (zand (zushr y0 (24 - 8 * ((i : Int) % 4))) 255)) 0 21 (l + i + 1)) := fun y0 => by
          unfold J_Model_feed_76
          rw [w32_of (by omega) (by omega), w32_of (by decide) (by decide), Int.tmod_eq_emod_of_nonneg (by omega), k1, zWr_ok (by omega) (by omega) (by omega), zLet_eq, zLet_eq, zUp_ne (by decide), k1]
        show L_Model_feed_23 a1 a2 a3 a4 a5 K (n + 1) (i : Int) ν = _
        rw [L_Model_feed_23, j76, j76, j76, j76, j76]
        unfold q_bt
        rw [w32_of (a := (i : Int)) (by omega) (by omega), w32_of (a := 20) (by decide) (by decide), if_neg (by omega), w32_of (a := 4) (by decide) (by decide), w32_of (a := 8) (by decide) (by decide), w32_of (a := 12) (by decide) (by decide), w32_of (a := 16) (by decide) (by decide)]
        by_cases h4 : (4 : Int) ≤ i
        · rw [if_pos h4, if_neg (show ¬ (i : Int) < 4 by omega)]
          by_cases h8 : (8 : Int) ≤ i
          · rw [if_pos h8, if_neg (show ¬ (i : Int) < 8 by omega)]
            by_cases h12 : (12 : Int) ≤ i
            · rw [if_pos h12, if_neg (show ¬ (i : Int) < 12 by omega)]
              by_cases h16 : (16 : Int) ≤ i
              · rw [if_pos h16, if_neg (show ¬ (i : Int) < 16 by omega)]
              · rw [if_neg h16, if_pos (show (i : Int) < 16 by omega)]
            · rw [if_neg h12, if_pos (show (i : Int) < 12 by omega)]
          · rw [if_neg h8, if_pos (show (i : Int) < 8 by omega)]
        · rw [if_neg h4, if_pos (show (i : Int) < 4 by omega)]
      · simp only []
        rw [zUp_at, q_up_at]; omega
      · simp only []
        rw [zUp_at, q_up_ne hk, zUp_ne (by decide)]; exact k2 k hk
      · simp only []
        rw [zUp_ne c0, zUp_ne c1]; exact k3 c c0 c1
      · simp only []
        rw [zUp_ne (by decide), zUp_at, q_up_ne (by omega)]; exact k4 q hq
      · simp only []
        rw [zUp_ne (by decide), zUp_at]
        by_cases hq : q = i
        · rw [hq, q_up_at]
        · rw [q_up_ne (by omega)]; exact k5 q q0 (by omega)) 20 zN (0, μ) ⟨0, rfl, by omega, by show μ 0 21 = l + ((0 : Nat) : Int); rw [h]; omega, fun _ _ => rfl, fun _ _ _ => rfl, fun _ _ => rfl, fun q q0 q1 => by omega⟩ (Nat.le_of_lt (zN_gt (by omega)))
  simp only [] at e hv k1 k2 k3 k4 k5
  obtain rfl : i = 20 := by omega
  refine ⟨ν, ?_, k1, k2, k3, k4, k5⟩
  refine e.trans ?_
  rw [hv]
  obtain ⟨n, hn⟩ : ∃ n, zN - 20 = n + 1 := ⟨zN - 20 - 1, by have := zN_gt (m := 20) (by omega); omega⟩
  rw [hn]
  show L_Model_feed_23 a1 a2 a3 a4 a5 K (n + 1) 20 ν = _
  rw [L_Model_feed_23, if_pos (Int.le_refl _)]
theorem act_feed (h : z_all m dl a κ μ) : z_step [] (F_Ledger_feed a1 a2 a3 a4 a5 κ) (F_Model_feed a1 a2 a3 a4 a5 μ) := by
  obtain ⟨p1, p2, p3, p4⟩ := h.2.2.2.1
  have u21 : zUp μ 0 0 0 0 21 = μ 0 21 := by rw [zUp_at, q_up_ne (by decide)]
  by_cases g : μ 0 21 + 20 ≤ 400
  · obtain ⟨κ', r1, c1, c2, c3, c4, c5⟩ := k_feed (κ := κ) (l := μ 0 21) (a1 := a1) (a2 := a2) (a3 := a3) (a4 := a4) (a5 := a5) p1 p2.1 g
    obtain ⟨μ', r2, d1, d2, d3, d4, d5⟩ := m_feed (μ := zUp μ 0 0 0) (l := μ 0 21) (a1 := a1) (a2 := a2) (a3 := a3) (a4 := a4) (a5 := a5) u21 p2.1 g (fun μ5 => some (.inr (some (zI (μ5 0 21))), μ5))
    refine z_step.ok (v := zI (μ 0 21 + 20)) (κ' := κ') (μ' := μ') r1 ?_ (h.tp (fun c hc => c3 c (by omega) (by omega)) (fun c hc => by rw [d3 c (by omega) (by omega), zUp_ne (by omega)]) (fun k hk => by rw [d2 k (by omega), zUp_at, q_up_ne (by omega)]) ⟨?_, ?_, fun i i0 i1 => ?_, ?_⟩) ?_
    · unfold F_Model_feed
      rw [zLet_eq, u21, w32_of (by omega) (by omega), w32_of (by decide) (by decide), if_pos g, r2, d1]
    · rw [c1, d1]
    · rw [d1]; omega
    · by_cases hi : i < μ 0 21
      · rw [c4 i hi, d4 i hi, zUp_ne (by decide)]; exact p3 i i0 hi
      · have e : i = μ 0 21 + (i - μ 0 21) := by omega
        rw [e, c5 _ (by omega) (by omega), d5 _ (by omega) (by omega)]
        exact ⟨rfl, zand_255 _⟩
    · rw [c2 3 (by decide), d2 24 (by decide), zUp_at, q_up_ne (by decide)]; exact p4
    · rw [d2 0 (by decide), zUp_at, q_up_at]
  · refine z_step.ok (v := zI (-1)) (κ' := κ) (μ' := zUp μ 0 0 0) ?_ ?_ (h.up0 0) (by rw [zUp_at, q_up_at])
    · unfold F_Ledger_feed
      rw [p1, w32_of (by omega) (by omega), w32_of (by decide) (by decide), if_neg g]
    · unfold F_Model_feed
      rw [zLet_eq, u21, w32_of (by omega) (by omega), w32_of (by decide) (by decide), if_neg g]
theorem act_end (h : z_all m dl a κ μ) (hx : q_i32 x) : z_step [] (F_Ledger_end x κ) (F_Model_end x μ) := by
  obtain ⟨p1, p2, p3, p4⟩ := h.2.2.2.1
  obtain ⟨x1, x2⟩ := hx
  have u21 : zUp μ 0 0 0 0 21 = μ 0 21 := by rw [zUp_at, q_up_ne (by decide)]
  by_cases g : 0 ≤ x ∧ x ≤ μ 0 21
  · refine z_step.ok (v := zI 1) (κ' := zUp κ 1 1 x) (μ' := zUp (zUp μ 0 0 0) 0 21 x) ?_ ?_ (h.tp (fun c hc => zUp_ne (by omega)) (fun c hc => by rw [zUp_ne (by omega), zUp_ne (by omega)]) (fun k hk => by rw [zUp_at, q_up_ne (by omega), zUp_at, q_up_ne (by omega)]) ⟨?_, ?_, fun i i0 i1 => ?_, ?_⟩) ?_
    · unfold F_Ledger_end
      rw [w32_of x1 x2, if_neg (by omega), p1, w32_of (by omega) (by omega), if_pos g.2, zLet_eq]
    · unfold F_Model_end
      rw [zLet_eq, u21, w32_of x1 x2, w32_of (by omega) (by omega), z_isInY g.1 g.2 (by decide) (by omega), zC_I, w32_of (by decide) (by decide), if_neg (by decide), zLet_eq]
    · rw [zUp_at, q_up_at, zUp_at, q_up_at]
    · rw [zUp_at, q_up_at]; omega
    · rw [zUp_at, q_up_at] at i1
      rw [zUp_ne (by decide), zUp_ne (by decide), zUp_ne (by decide)]
      exact p3 i i0 (by omega)
    · rw [zUp_at, q_up_ne (by decide), zUp_at, q_up_ne (by decide), zUp_at, q_up_ne (by decide)]; exact p4
    · rw [zUp_at, q_up_ne (by decide), zUp_at, q_up_at]
  · refine z_step.ok (v := zI 0) (κ' := κ) (μ' := zUp μ 0 0 0) ?_ ?_ (h.up0 0) (by rw [zUp_at, q_up_at])
    · unfold F_Ledger_end
      rw [w32_of x1 x2, p1, w32_of (by omega) (by omega)]
      by_cases g0 : x < 0
      · rw [if_pos g0]
      · rw [if_neg g0, if_neg (by omega)]
    · unfold F_Model_end
      rw [zLet_eq, u21, w32_of x1 x2, w32_of (by omega) (by omega), z_isInN (by omega) (by omega) (by omega) (by decide) (by decide) (by omega) (by omega), zC_I, w32_of (by decide) (by decide), if_pos rfl]
theorem act_fault (h : z_all m dl a κ μ) : z_step [] (F_Ledger_fault κ) (F_Model_fault μ) := by
  obtain ⟨p1, p2, p3, p4⟩ := h.2.2.2.1
  refine z_step.ok (v := zI (μ 0 24)) (κ' := κ) (μ' := zUp μ 0 0 0) ?_ ?_ (h.up0 0) (by rw [zUp_at, q_up_at])
  · unfold F_Ledger_fault
    rw [p4]
  · unfold F_Model_fault
    rw [zLet_eq, zUp_at, q_up_ne (by decide)]
end TZ
