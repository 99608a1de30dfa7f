/-! ===== acts: what is written down ===== -/
def q_jw (J : Int → Int) (a : Nat) (kd who sum wh ot : Int) : Int → Int := q_up (q_up (q_up (q_up (q_up J (5 * (a : Int)) kd) (5 * (a : Int) + 1) who) (5 * (a : Int) + 2) sum) (5 * (a : Int) + 3) wh) (5 * (a : Int) + 4) ot
abbrev plJ : List Nat := [11, 12]
abbrev plNo : List Nat := [13, 14, 15, 16, 17, 18, 19, 20, 21, 22, 23, 24, 25, 26, 27, 28, 29, 30, 31, 3, 4, 5, 6]
abbrev plNf : List Nat := [13, 14, 15, 16, 17, 18, 19, 20, 21, 22, 23, 24, 25, 26, 27, 28, 29, 30, 31, 11, 12]
section GA
variable {m dl a : Nat} {B kd who sum wh ot : Int} {tm ex pr J J' s : Int → Int} {σ : QS} {κ μ ν : ZMem}
theorem q_jw_lo {k : Int} (h : k < 5 * (a : Int)) : q_jw J a kd who sum wh ot k = J k := by
  unfold q_jw
  rw [q_up_ne (by omega), q_up_ne (by omega), q_up_ne (by omega), q_up_ne (by omega), q_up_ne (by omega)]
theorem q_jw_hi {k : Int} (h : 5 * (a : Int) + 5 ≤ k) : q_jw J a kd who sum wh ot k = J k := by
  unfold q_jw
  rw [q_up_ne (by omega), q_up_ne (by omega), q_up_ne (by omega), q_up_ne (by omega), q_up_ne (by omega)]
theorem q_jw_at : q_jw J a kd who sum wh ot (5 * (a : Int)) = kd ∧ q_jw J a kd who sum wh ot (5 * (a : Int) + 1) = who ∧ q_jw J a kd who sum wh ot (5 * (a : Int) + 2) = sum ∧ q_jw J a kd who sum wh ot (5 * (a : Int) + 3) = wh ∧ q_jw J a kd who sum wh ot (5 * (a : Int) + 4) = ot := by
  unfold q_jw
  refine ⟨?_, ?_, ?_, ?_, ?_⟩
  · rw [q_up_ne (by omega), q_up_ne (by omega), q_up_ne (by omega), q_up_ne (by omega), q_up_at]
  · rw [q_up_ne (by omega), q_up_ne (by omega), q_up_ne (by omega), q_up_at]
  · rw [q_up_ne (by omega), q_up_ne (by omega), q_up_at]
  · rw [q_up_ne (by omega), q_up_at]
  · rw [q_up_at]
theorem q_run_J (h : ∀ k : Int, k < 5 * (a : Int) → J' k = J k) : ∀ k : Nat, k ≤ a → q_run m tm ex pr J' k = q_run m tm ex pr J k
  | 0, _ => rfl
  | k + 1, hk => by
    rw [q_run, q_run, q_run_J h k (by omega), h (5 * (k : Int)) (by omega), h (5 * (k : Int) + 1) (by omega), h (5 * (k : Int) + 2) (by omega), h (5 * (k : Int) + 4) (by omega)]
theorem q_jw_run {k : Nat} (hk : k ≤ a) : q_run m tm ex pr (q_jw J a kd who sum wh ot) k = q_run m tm ex pr J k := q_run_J (fun _ h => q_jw_lo h) k hk
theorem q_jw_last : q_run m tm ex pr (q_jw J a kd who sum wh ot) (a + 1) = q_do m tm ex kd who sum ot (q_run m tm ex pr J a) := by
  obtain ⟨e0, e1, e2, -, e4⟩ := q_jw_at (J := J) (a := a) (kd := kd) (who := who) (sum := sum) (wh := wh) (ot := ot)
  rw [q_run, e0, e1, e2, e4, q_jw_run (Nat.le_refl _)]
theorem q_jo.jw (hj : q_jo m dl tm ex pr J a) (ha : a < 60) (hq : q_ac m dl kd who sum ot) (hc : q_can m dl ex kd who sum ot (q_run m tm ex pr J a).1 = 1) : q_jo m dl tm ex pr (q_jw J a kd who sum wh ot) (a + 1) := by
  refine ⟨by omega, fun k hk => ?_⟩
  by_cases e : k = a
  · subst e
    obtain ⟨e0, e1, e2, -, e4⟩ := q_jw_at (J := J) (a := k) (kd := kd) (who := who) (sum := sum) (wh := wh) (ot := ot)
    unfold q_ja q_jc
    rw [e0, e1, e2, e4, q_jw_run (Nat.le_refl _)]
    exact ⟨hq, hc⟩
  · unfold q_ja q_jc
    rw [q_jw_lo (by omega), q_jw_lo (by omega), q_jw_lo (by omega), q_jw_lo (by omega), q_jw_run (by omega)]
    exact hj.2 k (by omega)
theorem q_jo.less (hj : q_jo m dl tm ex pr J a) {b : Nat} (hb : b ≤ a) : q_jo m dl tm ex pr J b := ⟨Nat.le_trans hb hj.1, fun k hk => hj.2 k (by omega)⟩
/-! the class -/
theorem s_T.cells {μ μ' : ZMem} (h : s_T m dl tm ex σ μ) (e : ∀ j, j < 19 → μ' j = μ j) : s_T m dl tm ex σ μ' := by
  obtain ⟨⟨hb, hr⟩, h2, hg, hn, hN, hF⟩ := h
  exact ⟨⟨hb.vw (e 1 (by decide)) (e 2 (by decide)) (e 3 (by decide)) (e 4 (by decide)) (e 5 (by decide)), hr.vw (e 7 (by decide)) (e 8 (by decide)) (e 9 (by decide)) (e 10 (by decide)) (e 12 (by decide))⟩, by rw [e 0 (by decide)]; exact h2, fun i i0 i1 => by rw [e 11 (by decide)]; exact hg i i0 i1, fun i q i0 i1 q0 q1 => by rw [e 17 (by decide)]; exact hn i q i0 i1 q0 q1, fun q q0 q1 => by rw [e 17 (by decide)]; exact hN q q0 q1, fun q q0 q1 => by rw [e 18 (by decide)]; exact hF q q0 q1⟩
theorem k_mgT {pl : List Nat} (hp : ∀ j, j < 19 → zIx pl 0 (13 + j) = some j) (f : ∀ c, 19 ≤ c → ν c = zVw pl κ c) : (∀ j, j < 19 → zVw plN (zMg pl κ ν) j = ν j) ∧ (∀ c, c < 13 ∨ 32 ≤ c → zMg pl κ ν c = κ c) := by
  refine ⟨fun j hj => ?_, fun c hc => ?_⟩
  · have e1 : zRho plN j = 13 + j := by
      have : ∀ j : Nat, j < 19 → zRho plN j = 13 + j := by decide
      exact this j hj
    show zMg pl κ ν (zRho plN j) = ν j
    rw [e1]
    exact zMg_in (hp j hj)
  · funext i
    unfold zMg
    cases hx : zIx pl 0 c with
    | none => rfl
    | some j =>
      have e := zIx_rho hx
      have hj : 19 ≤ j := by
        rcases Nat.lt_or_ge j 19 with h1 | h1
        · exfalso
          have e2 := zIx_rho (hp j h1)
          omega
        · exact h1
      show ν j i = κ c i
      rw [f j hj]
      show κ (zRho pl j) i = κ c i
      rw [e]
theorem j_write (h : ν 0 1 = a) (ha : a < 60) : ∃ ν', F_Journal_write kd who sum wh ot ν = some (.inr none, ν') ∧ (ν' 0 1 = a + 1) ∧ (∀ k : Int, k < 7 * (a : Int) → ν' 1 k = ν 1 k) ∧ ν' 1 (7 * (a : Int)) = kd ∧ ν' 1 (7 * (a : Int) + 1) = who ∧ ν' 1 (7 * (a : Int) + 2) = sum ∧ ν' 1 (7 * (a : Int) + 3) = wh ∧ ν' 1 (7 * (a : Int) + 4) = ot := by
  refine ⟨zUp (zUp (zUp (zUp (zUp (zUp ν 1 (7 * (a : Int)) kd) 1 (7 * (a : Int) + 1) who) 1 (7 * (a : Int) + 2) sum) 1 (7 * (a : Int) + 3) wh) 1 (7 * (a : Int) + 4) ot) 0 1 (a + 1), ?_, ?_, fun k hk => ?_, ?_, ?_, ?_, ?_, ?_⟩
  · unfold F_Journal_write
    simp (disch := omega) only [Int.add_zero, Int.mul_zero, Int.reduceMul, Int.reduceAdd, Int.mul_one, Int.tdiv_eq_ediv_of_nonneg, Int.tmod_eq_emod_of_nonneg, ↓reduceIte, ↓zLet_eq, ↓zRd_ok, ↓zWr_ok, ↓zC_V, ↓zC_I, ↓zC_J, zUp_at, zUp_ne, q_up_at, q_up_ne, w32_of, w64_of, q_le_T, q_le_F, q_lt_T, q_lt_F, q_eq_T, q_eq_F, true_or, or_true, or_false, false_or, false_and, and_false, h, Int.mul_comm (a : Int) 7]
  · rw [zUp_at, q_up_at]
  · simp (disch := omega) only [zUp_at, zUp_ne, q_up_ne, ne_eq]
  · simp (disch := omega) only [zUp_at, zUp_ne, q_up_ne, q_up_at, ne_eq]
  · simp (disch := omega) only [zUp_at, zUp_ne, q_up_ne, q_up_at, ne_eq]
  · simp (disch := omega) only [zUp_at, zUp_ne, q_up_ne, q_up_at, ne_eq]
  · simp (disch := omega) only [zUp_at, zUp_ne, q_up_ne, q_up_at, ne_eq]
  · simp (disch := omega) only [zUp_at, zUp_ne, q_up_ne, q_up_at, ne_eq]
theorem j_coming {x y : Int} (h : ν 0 1 = a + 1) (ha : a < 60) : ∃ ν', F_Journal_writeComing x y ν = some (.inr none, ν') ∧ (ν' 0 = ν 0) ∧ (∀ k : Int, k < 7 * (a : Int) + 5 → ν' 1 k = ν 1 k) ∧ ν' 1 (7 * (a : Int) + 5) = x ∧ ν' 1 (7 * (a : Int) + 6) = y := by
  refine ⟨zUp (zUp ν 1 (7 * (a : Int) + 5) x) 1 (7 * (a : Int) + 6) y, ?_, ?_, fun k hk => ?_, ?_, ?_⟩
  · unfold F_Journal_writeComing
    simp (disch := omega) only [Int.add_zero, Int.mul_zero, Int.reduceMul, Int.reduceAdd, Int.mul_one, Int.tdiv_eq_ediv_of_nonneg, Int.tmod_eq_emod_of_nonneg, ↓reduceIte, ↓zLet_eq, ↓zRd_ok, ↓zWr_ok, ↓zC_V, ↓zC_I, ↓zC_J, zUp_at, zUp_ne, q_up_at, q_up_ne, w32_of, w64_of, q_le_T, q_le_F, q_lt_T, q_lt_F, q_eq_T, q_eq_F, true_or, or_true, or_false, false_or, false_and, and_false, h, show ((a : Int) + 1 - 1) * 7 = 7 * (a : Int) by omega]
  · rw [zUp_ne (by decide), zUp_ne (by decide)]
  · simp (disch := omega) only [zUp_at, zUp_ne, q_up_ne, ne_eq]
  · simp (disch := omega) only [zUp_at, zUp_ne, q_up_ne, q_up_at, ne_eq]
  · simp (disch := omega) only [zUp_at, zUp_ne, q_up_ne, q_up_at, ne_eq]
theorem k_write (C : c_at m dl a tm ex pr J κ) (hf : q_fu m dl tm ex pr) (hj : q_jo m dl tm ex pr J a) (ha : a < 60) (hq : q_ac m dl kd who sum ot) (hc : q_can m dl ex kd who sum ot (q_run m tm ex pr J a).1 = 1) :
    ∃ κ', F_Ledger_doAndWrite kd who sum ot κ = some (.inr (some (zJ (q_an m tm ex kd who sum ot (q_run m tm ex pr J a)))), κ') ∧ c_at m dl (a + 1) tm ex pr (q_jw J a kd who sum ((q_run m tm ex pr J a).1 90) ot) κ' ∧ (∀ c, c < 11 ∨ 32 ≤ c → κ' c = κ c) := by
  obtain ⟨C1, ⟨c11, cJ, c56⟩, cs, c32⟩ := C
  obtain ⟨B1, B2, B3, B4, B5⟩ := q_run_B hf hj (Nat.le_refl a)
  have hm : 0 < m := Nat.pos_of_ne_zero (fun h0 => by
    unfold q_can at hc
    rw [if_pos h0] at hc
    exact absurd hc (by decide))
  obtain ⟨ν1, r1, s1, t4, t5, f1⟩ := t_perform cs B1 hf hm B2 B3 hq hc
  have e90 : κ 14 6 = (q_run m tm ex pr J a).1 90 := cs.1.1.2.2.2.2.2.2.1
  obtain ⟨g1, o1⟩ := k_mgT (pl := plN) (κ := κ) (ν := ν1) (by decide) f1
  have s1' : s_T m dl tm ex (q_do m tm ex kd who sum ot (q_run m tm ex pr J a)) (zVw plN (zMg plN κ ν1)) := s1.cells g1
  have e4 : zMg plN κ ν1 13 4 = q_th tm kd who sum (q_run m tm ex pr J a) := by rw [zMg_in (pl := plN) (c := 13) (j := 0) (by decide)]; exact t4
  have e5 : zMg plN κ ν1 13 5 = q_hr tm kd who sum (q_run m tm ex pr J a) := by rw [zMg_in (pl := plN) (c := 13) (j := 0) (by decide)]; exact t5
  generalize hκ2 : zMg plN κ ν1 = κ2 at *
  obtain ⟨ν3, r3, w1, wl, w0, wa, wb, wc, wd⟩ := j_write (ν := zVw plJ κ2) (a := a) (kd := kd) (who := who) (sum := sum) (wh := (q_run m tm ex pr J a).1 90) (ot := ot) (by show κ2 11 1 = a; rw [o1 11 (by decide)]; exact c11) ha
  have p11 : zMg plJ κ2 ν3 11 = ν3 0 := zMg_in (pl := plJ) (c := 11) (by decide)
  have p12 : zMg plJ κ2 ν3 12 = ν3 1 := zMg_in (pl := plJ) (c := 12) (by decide)
  have po : ∀ c, c ≠ 11 → c ≠ 12 → zMg plJ κ2 ν3 c = κ2 c := fun c h1 h2 => zMg_out (by simp only [List.mem_cons, List.not_mem_nil, or_false]; omega)
  generalize hκ3 : zMg plJ κ2 ν3 = κ3 at *
  obtain ⟨ν4, r4, v0, vl, v5, v6⟩ := j_coming (ν := zVw plJ κ3) (a := a) (x := κ3 13 4) (y := κ3 13 5) (by show κ3 11 1 = a + 1; rw [p11]; exact w1) ha
  have u11 : zMg plJ κ3 ν4 11 = ν4 0 := zMg_in (pl := plJ) (c := 11) (by decide)
  have u12 : zMg plJ κ3 ν4 12 = ν4 1 := zMg_in (pl := plJ) (c := 12) (by decide)
  have uo : ∀ c, c ≠ 11 → c ≠ 12 → zMg plJ κ3 ν4 c = κ2 c := fun c h1 h2 => by rw [zMg_out (by simp only [List.mem_cons, List.not_mem_nil, or_false]; omega)]; exact po c h1 h2
  have rl : ∀ k : Int, k < 7 * (a : Int) → zMg plJ κ3 ν4 12 k = κ 12 k := fun k hk => by
    rw [u12, vl k (by omega)]
    show κ3 12 k = _
    rw [p12, wl k hk]
    show κ2 12 k = _
    rw [o1 12 (by decide)]
  have rm : ∀ k : Int, k < 7 * (a : Int) + 5 → zMg plJ κ3 ν4 12 k = ν3 1 k := fun k hk => by
    rw [u12, vl k hk]
    show κ3 12 k = _
    rw [p12]
  refine ⟨zMg plJ κ3 ν4, ?_, ⟨?_, ⟨?_, fun k hk => ?_, fun k hk => ?_⟩, ?_, ?_⟩, fun c hc => ?_⟩
  · unfold F_Ledger_doAndWrite
    rw [zLet_eq, e90, r1, zCm_J, hκ2, r3, zCm_V, hκ3, r4, zCm_V]
  · rw [uo 3 (by decide) (by decide), uo 4 (by decide) (by decide), uo 5 (by decide) (by decide), uo 6 (by decide) (by decide), o1 3 (by decide), o1 4 (by decide), o1 5 (by decide), o1 6 (by decide)]
    exact C1
  · rw [u11, v0]
    show κ3 11 1 = _
    rw [p11, w1]
    omega
  · by_cases e : k = a
    · subst e
      obtain ⟨y0, y1, y2, y3, y4⟩ := q_jw_at (J := J) (a := k) (kd := kd) (who := who) (sum := sum) (wh := (q_run m tm ex pr J k).1 90) (ot := ot)
      rw [y0, y1, y2, y3, y4, Int.mul_comm (k : Int) 7, rm _ (by omega), rm _ (by omega), rm _ (by omega), rm _ (by omega), rm _ (by omega)]
      exact ⟨w0, wa, wb, wc, wd⟩
    · rw [q_jw_lo (by omega), q_jw_lo (by omega), q_jw_lo (by omega), q_jw_lo (by omega), q_jw_lo (by omega), rl _ (by omega), rl _ (by omega), rl _ (by omega), rl _ (by omega), rl _ (by omega)]
      exact cJ k (by omega)
  · by_cases e : k = a
    · subst e
      obtain ⟨y0, y1, y2, y3, y4⟩ := q_jw_at (J := J) (a := k) (kd := kd) (who := who) (sum := sum) (wh := (q_run m tm ex pr J k).1 90) (ot := ot)
      unfold q_jt q_jh
      rw [y0, y1, y2, q_jw_run (Nat.le_refl _), Int.mul_comm (k : Int) 7, u12, v5, v6, po 13 (by decide) (by decide)]
      exact ⟨e4, e5⟩
    · unfold q_jt q_jh
      rw [q_jw_lo (by omega), q_jw_lo (by omega), q_jw_lo (by omega), q_jw_run (by omega), rl _ (by omega), rl _ (by omega)]
      exact c56 k (by omega)
  · rw [q_jw_last]
    refine s1'.vw (fun c hc => uo c (by omega) (by omega))
  · rw [uo 32 (by decide) (by decide), o1 32 (by decide)]; exact c32
  · rw [uo c (by omega) (by omega), o1 c (by omega)]
/-! the reference -/
theorem m_writesDown (M : m_at m dl a μ) (ha : a < 60) (hq : q_ac m dl kd who sum ot) (hc : q_can m dl (μ 4) kd who sum ot (μ 5) = 1) :
    ∃ μ', F_Model_writesDown kd who sum ot μ = some (.inr none, μ') ∧ m_at m dl (a + 1) μ' ∧ μ' 8 = q_jw (μ 8) a kd who sum (μ 5 90) ot ∧ μ' 5 = (q_do m (μ 2) (μ 4) kd who sum ot (q_run m (μ 2) (μ 4) (μ 3) (μ 8) a)).1 ∧ (∀ c, c = 1 ∨ c = 2 ∨ c = 3 ∨ c = 4 ∨ (11 ≤ c ∧ c < 19) ∨ 23 ≤ c → μ' c = μ c) ∧ (∀ k, k ≠ 11 → k ≠ 14 → k ≠ 35 → k ≠ 36 → μ' 0 k = μ 0 k) := by
  obtain ⟨hf, m5, m6, m11, -, q2, q3, q4, hi, z6, z7⟩ := M.row
  obtain ⟨cf, -, hj, hs, h9⟩ := M
  rw [q2] at hc
  have hjw := hj.jw (wh := μ 5 90) ha hq hc
  obtain ⟨B1, B2, B3, B4, B5⟩ := q_run_B hf hj (Nat.le_refl a)
  have e90 : μ 5 90 = (q_run m (μ 2) (μ 4) (μ 3) (μ 8) a).1 90 := by rw [← q2]
  have b11 : zUp (zUp (zUp (zUp (zUp μ 8 (5 * (a : Int)) kd) 8 (5 * (a : Int) + 1) who) 8 (5 * (a : Int) + 2) sum) 8 (5 * (a : Int) + 3) (μ 5 90)) 8 (5 * (a : Int) + 4) ot 0 11 = a := by
    rw [zUp_ne (by decide), zUp_ne (by decide), zUp_ne (by decide), zUp_ne (by decide), zUp_ne (by decide)]
    exact m11
  generalize hμ1 : zUp (zUp (zUp (zUp (zUp (zUp μ 8 (5 * (a : Int)) kd) 8 (5 * (a : Int) + 1) who) 8 (5 * (a : Int) + 2) sum) 8 (5 * (a : Int) + 3) (μ 5 90)) 8 (5 * (a : Int) + 4) ot) 0 11 ((a : Int) + 1) = μ1
  have n8 : μ1 8 = q_jw (μ 8) a kd who sum (μ 5 90) ot := by
    rw [← hμ1, zUp_ne (by decide), zUp_at, zUp_at, zUp_at, zUp_at, zUp_at]
    rfl
  have nc : ∀ c, c ≠ 0 → c ≠ 8 → μ1 c = μ c := fun c c0 c8 => by rw [← hμ1, zUp_ne c0, zUp_ne c8, zUp_ne c8, zUp_ne c8, zUp_ne c8, zUp_ne c8]
  have n0 : ∀ k, k ≠ 11 → μ1 0 k = μ 0 k := fun k hk => by rw [← hμ1, zUp_at, q_up_ne hk, zUp_ne (by decide), zUp_ne (by decide), zUp_ne (by decide), zUp_ne (by decide), zUp_ne (by decide)]
  have n11 : μ1 0 11 = (a : Int) + 1 := by rw [← hμ1, zUp_at, q_up_at]
  have cf1 : m_cf m dl μ1 := by
    obtain ⟨f1, f2, f3, f4, f5, f6, f7⟩ := cf
    exact ⟨(n0 5 (by decide)).trans f1, (n0 6 (by decide)).trans f2, by rw [nc 2 (by decide) (by decide), nc 3 (by decide) (by decide), nc 4 (by decide) (by decide)]; exact f3, by rw [nc 5 (by decide) (by decide)]; exact f4, by rw [nc 6 (by decide) (by decide)]; exact f5, by rw [nc 7 (by decide) (by decide)]; exact f6, (n0 14 (by decide)).trans f7⟩
  obtain ⟨y0, y1, y2, y3, y4⟩ := q_jw_at (J := μ 8) (a := a) (kd := kd) (who := who) (sum := sum) (wh := μ 5 90) (ot := ot)
  have hrun : q_run m (μ1 2) (μ1 4) (μ1 3) (μ1 8) a = q_run m (μ 2) (μ 4) (μ 3) (μ 8) a := by
    rw [nc 2 (by decide) (by decide), nc 3 (by decide) (by decide), nc 4 (by decide) (by decide), n8, q_jw_run (Nat.le_refl _)]
  have hja : q_ja m dl (μ1 8) a := by rw [n8]; exact (hjw.2 a (by omega)).1
  have hjc : q_jc m dl (μ1 4) (μ1 8) a (q_run m (μ 2) (μ 4) (μ 3) (μ 8) a).1 = 1 := by
    have := (hjw.2 a (by omega)).2
    rw [q_jw_run (Nat.le_refl _)] at this
    rw [n8, nc 4 (by decide) (by decide)]
    exact this
  obtain ⟨μ2, r2, kp, h14, hs2, g9, g10⟩ := m_jstep (μ := μ1) (ν := μ1) (σ := q_run m (μ 2) (μ 4) (μ 3) (μ 8) a) (k := a) (as := a) cf1 (m_kp.rf μ1) (by rw [n0 14 (by decide)]; exact cf.2.2.2.2.2.2) (by rw [nc 5 (by decide) (by decide), nc 6 (by decide) (by decide), nc 7 (by decide) (by decide)]; exact hs) B1 B2 B3 ha (by omega) (by omega) hja hjc
  obtain ⟨-, e2, e3, e4, e8, e5, e6, e11⟩ := kp.at
  have hd : q_jd m (μ1 2) (μ1 4) (μ1 8) a (q_run m (μ 2) (μ 4) (μ 3) (μ 8) a) = q_do m (μ 2) (μ 4) kd who sum ot (q_run m (μ 2) (μ 4) (μ 3) (μ 8) a) := by
    unfold q_jd
    rw [n8, y0, y1, y2, y4, nc 2 (by decide) (by decide), nc 4 (by decide) (by decide)]
  have hlast : q_run m (μ2 2) (μ2 4) (μ2 3) (μ2 8) (a + 1) = q_do m (μ 2) (μ 4) kd who sum ot (q_run m (μ 2) (μ 4) (μ 3) (μ 8) a) := by
    rw [e2, e3, e4, e8, nc 2 (by decide) (by decide), nc 3 (by decide) (by decide), nc 4 (by decide) (by decide), n8]
    exact q_jw_last
  have hrun2 : ∀ k : Nat, k ≤ a → q_run m (μ2 2) (μ2 4) (μ2 3) (μ2 8) k = q_run m (μ 2) (μ 4) (μ 3) (μ 8) k := fun k hk => by
    rw [e2, e3, e4, e8, nc 2 (by decide) (by decide), nc 3 (by decide) (by decide), nc 4 (by decide) (by decide), n8]
    exact q_jw_run hk
  rw [hd] at hs2
  obtain ⟨p1, p2, p3, p4⟩ := q_pair hs2
  have jo2 : q_jo m dl (μ2 2) (μ2 4) (μ2 3) (μ2 8) (a + 1) := by
    rw [e2, e3, e4, e8, nc 2 (by decide) (by decide), nc 3 (by decide) (by decide), nc 4 (by decide) (by decide), n8]
    exact hjw
  have fu2 : q_fu m dl (μ2 2) (μ2 4) (μ2 3) := by
    rw [e2, e3, e4, nc 2 (by decide) (by decide), nc 3 (by decide) (by decide), nc 4 (by decide) (by decide)]
    exact hf
  obtain ⟨iv1, iv2⟩ := q_run_inv fu2 jo2 (a + 1) (Nat.le_refl _)
  rw [hlast] at iv1 iv2
  refine ⟨μ2, ?_, ⟨⟨e5.trans cf1.1, e6.trans cf1.2.1, fu2, ?_, ?_, ?_, h14⟩, ?_, jo2, ?_, fun k hk => ?_⟩, e8.trans n8, p2, fun c hc => ?_, fun k k1 k2 k3 k4 => ?_⟩
  · unfold F_Model_writesDown
    rw [zLet_eq, m11, zWr_ok (by omega) (by omega) (by omega), zWr_ok (by omega) (by omega) (by omega), zWr_ok (by omega) (by omega) (by omega), zRd_ok (by omega) (by omega) (by omega), zUp_ne (by decide), zUp_ne (by decide), zUp_ne (by decide), zWr_ok (by omega) (by omega) (by omega), zWr_ok (by omega) (by omega) (by omega), zLet_eq, b11, hμ1, n11, show (a : Int) + 1 - 1 = a by omega, r2, zC_V]
  · rw [p2]; exact iv1.2.2.2.2
  · rw [p3]; exact iv2.1
  · rw [p4]; exact iv2.2
  · rw [e11, n11]; omega
  · rw [hlast]; exact hs2
  · by_cases e : k = a
    · subst e
      rw [g9, g10, q_up_at, q_up_at, hrun2 k (Nat.le_refl _), e2, e8]
      exact ⟨rfl, rfl⟩
    · rw [g9, g10, q_up_ne (by omega), q_up_ne (by omega), nc 9 (by decide) (by decide), nc 10 (by decide) (by decide), hrun2 k (by omega), e2, e8, nc 2 (by decide) (by decide), n8]
      unfold q_jt q_jh
      rw [q_jw_lo (by omega), q_jw_lo (by omega), q_jw_lo (by omega)]
      exact h9 k (by omega)
  · rw [kp.1 c (by omega) (by omega) (by omega) (by omega) (by omega) (by omega) (by omega) (by omega) (by omega) (by omega), nc c (by omega) (by omega)]
  · rw [kp.2 k k2 k3 k4, n0 k k1]
end GA
