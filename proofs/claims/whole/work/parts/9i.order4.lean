/-! ===== face: order, both ===== -/
section FO
variable {m dl a : Nat} {κ μ : ZMem} {x : Int}
theorem face_order (h : z_rest m dl a κ μ) (hx : q_i32 x) : z_face [] m dl a κ μ (F_Ledger_order x κ) (F_Model_order x μ) := by
  obtain ⟨hf, h6, hdl, ht, ⟨m5, m6, m11, ha⟩, ⟨k3, k4, k11⟩, hi, hq, hs⟩ := h.all
  obtain ⟨M, C⟩ := h
  have hb : b_bk dl (μ 2) (μ 5) (zVw plNB κ) := hs.1.1
  obtain ⟨x1, x2⟩ := hx
  have on6 := q_on_le (μ 5) dl
  -- the class
  obtain ⟨ν, r1, f1, H⟩ := o_search (μ := zVw plWW κ) (hb.cong rfl rfl rfl rfl rfl) hi h6 hdl ht (by omega) (by omega)
  have o1 : ∀ c, c < 51 ∨ 97 ≤ c → zMg plWW κ ν c = κ c := fun c hc => by
    funext i
    unfold zMg
    cases hx : zIx plWW 0 c with
    | none => rfl
    | some j =>
      have e := zIx_rho hx
      have hj : 46 ≤ j := by
        rcases Nat.lt_or_ge j 46 with h1 | h1
        · exfalso
          have : ∀ j : Nat, j < 46 → 51 ≤ zRho plWW j ∧ zRho plWW j < 97 := by decide +kernel
          have := this j h1
          omega
        · exact h1
      show ν j i = κ c i
      rw [f1 j hj]
      show κ (zRho plWW j) i = κ c i
      rw [e]
  generalize hR : o_tr (μ 2) dl (q_on (μ 5) dl) 0 (μ 5) (fun _ => 0) (-1, zVw plWW κ 45) = R at H
  obtain ⟨g3, -, g4, g45, gb0, gb1⟩ := H
  have e3 : zMg plWW κ ν 51 3 = q_on (μ 5) dl := by rw [zMg_in (pl := plWW) (c := 51) (j := 0) (by decide)]; exact g3
  have e4 : zMg plWW κ ν 51 4 = R.1 := by rw [zMg_in (pl := plWW) (c := 51) (j := 0) (by decide)]; exact g4
  have e96 : ∀ i : Int, 0 ≤ i → i < q_on (μ 5) dl → zMg plWW κ ν 96 i = R.2 i := fun i i0 i1 => by rw [zMg_in (pl := plWW) (c := 96) (j := 45) (by decide +kernel)]; exact g45 i i0 i1
  generalize hκ : zMg plWW κ ν = κ2 at *
  have hcf : c_fr κ κ2 := c_fr.of (fun c hc => o1 c (by omega))
  -- the reference
  have zr : q_z 92 (μ 5) ∧ q_z 1206 (μ 6) ∧ q_z 1206 (μ 7) ∧ μ 0 14 = 60 := M.1.2.2.2
  obtain ⟨μ1, l1, n1, n2, n3⟩ := m_openMany (m := m) (x := x) (B := 6 * a + 2 * μ 5 90) (μ := zUp (zUp μ 0 0 0) 0 39 0) (dl := dl) (by rw [zUp_at, q_up_ne (by decide), zUp_at, q_up_ne (by decide)]; exact m6) hdl (by rw [zUp_ne (by decide), zUp_ne (by decide)]; exact hi) (by rw [zUp_at, q_up_at]) (fun μ8 => zLet (zUp μ8 0 40 (-1)) (fun μ9 => zC (F_Model_putsAside  μ9) (zkV (fun μ10 => zC (F_Model_goesOn_0 0 μ10) (zkV (fun μ12 => if w32 x = w32 (-1) then (some (.inr (some (zJ (μ12 0 40))), μ12)) else (zC (F_Model_isIn (w32 x) 0 (w32 ((μ12 0 39) - 1)) μ12) (zkI (fun x15 _ => if w32 x15 = 0 then (some (.inr (some (zJ (-1))), μ12)) else (zRd μ12 24 6 x (fun x16 => some (.inr (some (zJ (w32 x16))), μ12))))) zX0))) zX0)) zX0))
  have n1' : ∀ c, c ≠ 0 → μ1 c = μ c := fun c hc => by rw [n1 c hc, zUp_ne hc, zUp_ne hc]
  rw [zUp_ne (by decide), zUp_ne (by decide)] at n3
  have n2' : ∀ k, k ≠ 0 → k ≠ 39 → μ1 0 k = μ 0 k := fun k k0 k1 => by rw [n2 k k1, zUp_at, q_up_ne k1, zUp_at, q_up_ne k0]
  have n00 : μ1 0 0 = 0 := by rw [n2 0 (by decide), zUp_at, q_up_ne (by decide), zUp_at, q_up_at]
  obtain ⟨μ4, r4, f4, g11, g12⟩ := m_putsAside (zUp μ1 0 40 (-1))
  have p0 : ∀ k, k ≠ 40 → μ4 0 k = μ1 0 k := fun k hk => by rw [f4 0 (by decide) (by decide) (by decide), zUp_at, q_up_ne hk]
  have pc : ∀ c, c ≠ 0 → c ≠ 11 → c ≠ 12 → c ≠ 13 → μ4 c = μ c := fun c c0 c1 c2 c3 => by rw [f4 c c1 c2 c3, zUp_ne c0, n1' c c0]
  have oB : o_B m dl (q_on (μ 5) dl) (6 * a + 2 * μ 5 90) μ4 := by
    refine ⟨?_, ?_, ?_, ?_, ?_, ?_, ?_, fun k k0 k1 => ?_, fun k k0 k1 => ?_, ?_⟩
    · rw [p0 5 (by decide), n2' 5 (by decide) (by decide)]; exact m5
    · rw [p0 6 (by decide), n2' 6 (by decide) (by decide)]; exact m6
    · rw [p0 14 (by decide), n2' 14 (by decide) (by decide)]; exact zr.2.2.2
    · rw [p0 39 (by decide)]; exact n3
    · rw [pc 5 (by decide) (by decide) (by decide) (by decide)]; exact hi
    · rw [pc 6 (by decide) (by decide) (by decide) (by decide)]; exact zr.2.1
    · rw [pc 7 (by decide) (by decide) (by decide) (by decide)]; exact zr.2.2.1
    · rw [g11 k k0 k1, zUp_ne (by decide), n1' 5 (by decide), pc 5 (by decide) (by decide) (by decide) (by decide)]
    · rw [(g12 k k0 k1).1, (g12 k k0 k1).2, zUp_ne (by decide), zUp_ne (by decide), n1' 6 (by decide), n1' 7 (by decide), pc 6 (by decide) (by decide) (by decide) (by decide), pc 7 (by decide) (by decide) (by decide) (by decide)]
      exact ⟨rfl, rfl⟩
    · rw [pc 2 (by decide) (by decide) (by decide) (by decide)]; exact ht
  obtain ⟨μ5, r5, gf, hA⟩ := o_go_0 (r := q_on (μ 5) dl) (L := q_on (μ 5) dl) (u := 0) (s := μ 5) (p := fun _ => 0) (A := (-1, μ4 24)) (j := 0) rfl h6 hdl (by omega) (by omega) oB (fun i i0 i1 => by omega) (by rw [pc 5 (by decide) (by decide) (by decide) (by decide)]; rfl) (fun d hd => (hi.2.1 d (by omega)).2.2.2) (by decide) (by decide) (fun d hd => by
      rw [pc 5 (by decide) (by decide) (by decide) (by decide)]
      have hD := (hi.2.1 d (by omega)).2.2.2
      have hz : ¬ w32 (zand (zshr 0 (d : Int)) 1) = 1 := by
        have : ∀ d : Nat, d < 6 → ¬ w32 (zand (zshr 0 (d : Int)) 1) = 1 := by decide +kernel
        exact this d (by omega)
      exact ⟨fun q => by
        rcases q with q | q
        · exact absurd q hz
        · omega, fun q => Or.inr (by omega)⟩) (by omega) (by omega) ⟨by rw [f4 0 (by decide) (by decide) (by decide), zUp_at, q_up_at], fun _ _ _ => rfl, by show (-1 : Int) ≤ -1; decide, by show (-1 : Int) ≤ 1000000000; decide⟩
  rw [pc 2 (by decide) (by decide) (by decide) (by decide)] at hA
  have rel := o_tr_R (tm := μ 2) (dl := dl) (q_on (μ 5) dl) 0 (μ 5) (fun _ => 0) (-1, zVw plWW κ 45) (-1, μ4 24) ⟨rfl, fun q => absurd q (by show ¬ (0 : Int) ≤ -1; decide)⟩
  have ge := o_tr_ge (tm := μ 2) h6 hdl ht (q_on (μ 5) dl) 0 (6 * a + 2 * μ 5 90) (μ 5) (fun _ => 0) (-1, zVw plWW κ 45) hi (by omega) (by omega) (Nat.le_refl _)
  rw [hR] at rel ge
  generalize o_tr (μ 2) dl (q_on (μ 5) dl) 0 (μ 5) (fun _ => 0) (-1, μ4 24) = R' at hA rel
  obtain ⟨a1, a2, a3, a4⟩ := hA
  have rr : R' = R := Prod.ext rel.1.symm (rel.2 ge).symm
  rw [rr] at a1 a2 a3 a4
  have e39 : μ5 0 39 = q_on (μ 5) dl := by rw [gf.2.1 39 (by decide) (by decide) (by decide), p0 39 (by decide)]; exact n3
  have e50 : ∀ k, k ≠ 0 → k ≠ 35 → k ≠ 36 → k ≠ 39 → k ≠ 40 → μ5 0 k = μ 0 k := fun k c0 c1 c2 c3 c4 => by rw [gf.2.1 k c1 c2 c4, p0 k c4, n2' k c0 c3]
  have ec : ∀ c, 1 ≤ c → (c ≤ 8 ∨ c = 14 ∨ c = 15) → μ5 c = μ c := fun c c0 c1 => by rw [gf.c (c := c) (by omega), pc c (by omega) (by omega) (by omega) (by omega)]
  have hat : m_at m dl a μ5 := M.cong9 ha (fun c c0 c1 => ec c (by omega) (Or.inl c1)) (fun k hk => by
      rw [(gf.2.2.1 k hk).1, (gf.2.2.1 k hk).2, pc 9 (by decide) (by decide) (by decide) (by decide), pc 10 (by decide) (by decide) (by decide) (by decide)]
      exact ⟨rfl, rfl⟩) (fun k hk => e50 k (by omega) (by omega) (by omega) (by omega) (by omega))
  have hfr : m_fr μ μ5 := ⟨fun c hc => ec c (by omega) (by omega), fun k hk => e50 k (by omega) (by omega) (by omega) (by omega) (by omega)⟩
  have h00 : μ5 0 0 = 0 := by rw [gf.2.1 0 (by decide) (by decide) (by decide), p0 0 (by decide)]; exact n00
  have run : F_Model_order x μ = (if w32 x = w32 (-1) then (some (.inr (some (zJ (μ5 0 40))), μ5)) else (zC (F_Model_isIn (w32 x) 0 (w32 ((μ5 0 39) - 1)) μ5) (zkI (fun x15 _ => if w32 x15 = 0 then (some (.inr (some (zJ (-1))), μ5)) else (zRd μ5 24 6 x (fun x16 => some (.inr (some (zJ (w32 x16))), μ5))))) zX0)) := by
    unfold F_Model_order
    rw [zLet_eq, zLet_eq]
    refine l1.trans ?_
    rw [zLet_eq, r4, zC_V, r5, zC_V]
  have runc : F_Ledger_order x κ = (if w32 x = w32 (-1) then (some (.inr (some (zJ (κ2 51 4))), κ2)) else (if w32 x < 0 then (J_Ledger_order_42 κ2) else (if w32 x < w32 (κ2 51 3) then (zRd κ2 96 6 x (fun x3 => some (.inr (some (zJ (w32 x3))), κ2))) else (J_Ledger_order_42 κ2)))) := by
    unfold F_Ledger_order
    rw [r1, zCm_V, hκ]
  rw [e3, e4, w32_of x1 x2, w32_of (a := -1) (by decide) (by decide), w32_of (a := (q_on (μ 5) dl : Int)) (by omega) (by omega)] at runc
  rw [a1, e39, w32_of x1 x2, w32_of (a := -1) (by decide) (by decide), w32_of (a := (q_on (μ 5) dl : Int) - 1) (by omega) (by omega)] at run
  by_cases w : x = -1
  · rw [if_pos w] at run runc
    exact z_face.ok (v := zJ R.1) runc run hcf hfr hat h00
  · rw [if_neg w] at run runc
    by_cases w0 : x < 0
    · rw [if_pos w0] at runc
      rw [z_isInN (Or.inl w0) (by omega) (by omega) (by omega) (by omega) (by omega) (by omega), zC_I, w32_of (a := 0) (by decide) (by decide), if_pos rfl] at run
      exact z_face.ok (v := zJ (-1)) runc run hcf hfr hat h00
    · rw [if_neg w0] at runc
      by_cases w1 : x < q_on (μ 5) dl
      · rw [if_pos w1, zRd_ok (by omega) (by omega) (by omega), e96 x (by omega) w1] at runc
        rw [z_isInY (by omega) (by omega) (by omega) (by omega), zC_I, w32_of (a := 1) (by decide) (by decide), if_neg (by decide), zRd_ok (by omega) (by omega) (by omega), a2 x (by omega) w1] at run
        exact z_face.ok (v := zJ (w32 (R.2 x))) runc run hcf hfr hat h00
      · rw [if_neg w1] at runc
        rw [z_isInN (Or.inr (by omega)) (by omega) (by omega) (by omega) (by omega) (by omega) (by omega), zC_I, w32_of (a := 0) (by decide) (by decide), if_pos rfl] at run
        exact z_face.ok (v := zJ (-1)) runc run hcf hfr hat h00
end FO
