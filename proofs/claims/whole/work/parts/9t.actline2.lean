/-! ===== the tape's acts: a whole line ===== -/
section TM
variable {m dl a : Nat} {T : Int → Int} {E p p' w f x kd who sum ot lo hi : Int} {κ μ ν : ZMem}
theorem l_134 (hT : q_T T E) (kT : k_T 1 T E κ) (yT : y_T T E μ) (R : z_rest m dl a κ μ) (hk : kd = 0 ∨ kd = 1 ∨ kd = 3 ∨ kd = 4 ∨ kd = 5 ∨ kd = 6 ∨ kd = 7) (hq : ∀ v, 0 ≤ v → v ≤ 9999 → (kd = 4 → v ≤ 60) → q_ac m dl kd who v ot) (x0 : 0 ≤ x) (x1 : x ≤ E) (p0 : 0 ≤ p) (p1 : p ≤ E) (p0' : 0 ≤ p') (p1' : p' ≤ E) (hn : q_nx T E p = q_nx T E p') : z_lo m dl a T E κ μ (J_Ledger_readAct_134 x kd who ot 0 (X_t 1 κ p (-1))) (J_Model_actLine_227 x kd who ot (y_t μ p' (-1))) := by
  unfold J_Ledger_readAct_134 J_Model_actLine_227
  rw [X_rightY x_pl1, w32_of (a := kd) (by omega) (by omega), w32_of (a := 1) (by decide) (by decide), if_neg (show ¬ (1 : Int) = 0 by decide), w32_of (a := 5) (by decide) (by decide), w32_of (a := 6) (by decide) (by decide), w32_of (a := 3) (by decide) (by decide), w32_of (a := 7) (by decide) (by decide), w32_of (a := 4) (by decide) (by decide)]
  unfold J_Ledger_readAct_165 J_Ledger_readAct_170 J_Ledger_readAct_191 J_Model_actLine_237 J_Model_actLine_258
  rw [w32_of (a := kd) (by omega) (by omega), w32_of (a := 4) (by decide) (by decide)]
  rcases hk with rfl | rfl | rfl | rfl | rfl | rfl | rfl
  · rw [if_neg (by decide), if_neg (by decide), if_neg (by decide), if_neg (by decide), if_neg (by decide), if_pos rfl]
    exact l_num hT kT yT R (by decide) (by decide) (by decide) (by decide) (fun v v0 v1 => hq v (by omega) v1 (fun q => by omega)) (by decide) x0 x1 p0 p1 p0' p1' hn
  · rw [if_neg (by decide), if_neg (by decide), if_pos rfl, if_neg (by decide), if_neg (by decide), if_neg (by decide), if_pos rfl]
    exact l_num hT kT yT R (by decide) (by decide) (by decide) (by decide) (fun v v0 v1 => hq v (by omega) v1 (fun q => by omega)) (by decide) x0 x1 p0 p1 p0' p1' hn
  · rw [if_neg (by decide), if_neg (by decide), if_neg (by decide), if_pos rfl, if_neg (by decide), if_neg (by decide), if_neg (by decide), if_neg (by decide), if_pos rfl]
    exact l_num hT kT yT R (by decide) (by decide) (by decide) (by decide) (fun v v0 v1 => hq v (by omega) v1 (fun q => by omega)) (by decide) x0 x1 p0 p1 p0' p1' hn
  · rw [if_neg (by decide), if_neg (by decide), if_neg (by decide), if_neg (by decide), if_pos rfl, if_neg (by decide), if_neg (by decide), if_neg (by decide), if_neg (by decide), if_pos rfl]
    exact l_num hT kT yT R (by decide) (by decide) (by decide) (by decide) (fun v v0 v1 => hq v (by omega) (by omega) (fun _ => v1)) (by decide) x0 x1 p0 p1 p0' p1' hn
  · rw [if_pos rfl, if_neg (by decide), if_neg (by decide), if_neg (by decide), if_neg (by decide), if_neg (by decide)]
    exact l_196 hT kT yT R (hq 0 (by decide) (by decide) (fun q => by omega)) (by decide) x0 x1 p0 p1 p0' p1' hn
  · rw [if_neg (by decide), if_pos rfl, if_neg (by decide), if_neg (by decide), if_neg (by decide), if_neg (by decide), if_neg (by decide)]
    exact l_196 hT kT yT R (hq 0 (by decide) (by decide) (fun q => by omega)) (by decide) x0 x1 p0 p1 p0' p1' hn
  · rw [if_neg (by decide), if_neg (by decide), if_neg (by decide), if_neg (by decide), if_neg (by decide), if_neg (by decide), if_pos rfl]
    exact l_num hT kT yT R (by decide) (by decide) (by decide) (by decide) (fun v v0 v1 => hq v (by omega) v1 (fun q => by omega)) (by decide) x0 x1 p0 p1 p0' p1' hn
/-- a number unlike another one -/
theorem x_unlikeN (hT : q_T T E) (h : x_T T E ν) (p0 : 0 ≤ p) (p1 : p ≤ E) (h0 : -1 ≤ hi) (h1 : hi ≤ 10000) (g : ¬ q_no T E 0 hi (q_nx T E p)) : F_Text_takeNumberUnlike who hi (x_t ν p w) = some (.inr (some (zI (-1))), x_t ν (q_nx T E p) (q_nx T E p)) := by
  have hx := q_nx_in hT p0 p1
  have e := q_nx_nx hT p0 p1
  unfold F_Text_takeNumberUnlike
  rw [x_next hT h p0 p1, zC_I, x_numN hT h (by omega) hx.2.1 (by decide) (by decide) h0 h1 (by rw [e]; exact g), zC_I, if_pos rfl, e]
theorem x_unlikeE (hT : q_T T E) (h : x_T T E ν) (p0 : 0 ≤ p) (p1 : p ≤ E) (h0 : -1 ≤ hi) (h1 : hi ≤ 10000) (g : q_no T E 0 hi (q_nx T E p)) (e : q_vl T (q_nx T E p) (q_ds T E (q_nx T E p)) = who) : F_Text_takeNumberUnlike who hi (x_t ν p w) = some (.inr (some (zI (-1))), x_t ν (q_nx T E p + q_ds T E (q_nx T E p)) (q_nx T E p)) := by
  have hx := q_nx_in hT p0 p1
  have ee := q_nx_nx hT p0 p1
  have gb := g.2.2
  unfold F_Text_takeNumberUnlike
  rw [x_next hT h p0 p1, zC_I, x_numY hT h (by omega) hx.2.1 (by decide) (by decide) h0 h1 (by rw [ee]; exact g), zC_I, ee, w32_of (by omega) (by omega), w32_of (a := -1) (by decide) (by decide), if_neg (by omega), w32_of (a := who) (by omega) (by omega), if_pos e, x_refuse, zC_I]
theorem x_unlikeY (hT : q_T T E) (h : x_T T E ν) (p0 : 0 ≤ p) (p1 : p ≤ E) (h0 : -1 ≤ hi) (h1 : hi ≤ 10000) (w0 : 0 ≤ who) (w1 : who ≤ 10000) (g : q_no T E 0 hi (q_nx T E p)) (e : ¬ q_vl T (q_nx T E p) (q_ds T E (q_nx T E p)) = who) : F_Text_takeNumberUnlike who hi (x_t ν p w) = some (.inr (some (zI (q_vl T (q_nx T E p) (q_ds T E (q_nx T E p))))), x_t ν (q_nx T E p + q_ds T E (q_nx T E p)) w) := by
  have hx := q_nx_in hT p0 p1
  have ee := q_nx_nx hT p0 p1
  have gb := g.2.2
  unfold F_Text_takeNumberUnlike
  rw [x_next hT h p0 p1, zC_I, x_numY hT h (by omega) hx.2.1 (by decide) (by decide) h0 h1 (by rw [ee]; exact g), zC_I, ee, w32_of (by omega) (by omega), w32_of (a := -1) (by decide) (by decide), if_neg (by omega), w32_of (a := who) (by omega) (by omega), if_neg e]
theorem l_99 (hT : q_T T E) (kT : k_T 1 T E κ) (yT : y_T T E μ) (R : z_rest m dl a κ μ) (hk : kd = 0 ∨ kd = 1 ∨ kd = 3 ∨ kd = 4 ∨ kd = 5 ∨ kd = 6 ∨ kd = 7) (hq : kd ≠ 7 → ∀ v, 0 ≤ v → v ≤ 9999 → (kd = 4 → v ≤ 60) → q_ac m dl kd who v (-1)) (h7 : kd = 7 → 0 ≤ who ∧ who < m) (x0 : 0 ≤ x) (x1 : x ≤ E) (p0 : 0 ≤ p) (p1 : p ≤ E) (p0' : 0 ≤ p') (p1' : p' ≤ E) (hn : q_nx T E p = q_nx T E p') : z_lo m dl a T E κ μ (J_Ledger_readAct_99 x kd who (-1) 0 (X_t 1 κ p (-1))) (J_Model_actLine_171 x kd who (y_t μ p' (-1))) := by
  obtain ⟨hf, h6, hdl, ht, ⟨m5, m6, m11, ha⟩, ⟨k3, k4, k11⟩, hi, hq90, hs⟩ := R.all
  have hx := q_nx_in hT p0 p1
  have hx' := q_nx_in hT p0' p1'
  have ee := q_nx_nx hT p0' p1'
  have hE := hT.1
  have yT' : ∀ q f, y_T T E (y_t μ q f) := fun q f => ⟨by rw [y_t_0 (by decide) (by decide)]; exact yT.1, fun i i0 i1 => by rw [y_t_c (by decide)]; exact yT.2 i i0 i1⟩
  unfold J_Ledger_readAct_99 J_Model_actLine_171
  rw [X_rightY x_pl1, w32_of (a := 1) (by decide) (by decide), if_neg (show ¬ (1 : Int) = 0 by decide), y_here hT yT p0' p1', zC_I, w32_of (a := kd) (by omega) (by omega), w32_of (a := 7) (by decide) (by decide)]
  by_cases g7 : kd = 7
  · obtain ⟨w0, w1⟩ := h7 g7
    subst g7
    rw [if_pos rfl, if_pos rfl, X_t_c (show (3 : Nat) ≠ 1 by decide), k3, y_t_0 (show (5 : Int) ≠ 23 by decide) (show (5 : Int) ≠ 24 by decide), m5]
    by_cases g : q_no T E 0 ((m : Int) - 1) (q_nx T E p)
    · have d := q_ds_in (x := q_nx T E p) hT (by omega) hx.2.1
      have gb := g.2.2
      rw [y_numY hT yT (show 0 ≤ q_nx T E p' by omega) hx'.2.1 (by decide) (by decide) (by omega) (by omega) (by rw [ee, ← hn]; exact g), zC_I, ee, ← hn]
      unfold J_Model_actLine_199
      rw [w32_of (a := 7) (by decide) (by decide), if_pos rfl, y_t_24, if_pos rfl, w32_of (a := who) (by omega) (by omega), w32_of (a := q_vl T (q_nx T E p) (q_ds T E (q_nx T E p))) (by omega) (by omega)]
      by_cases e : q_vl T (q_nx T E p) (q_ds T E (q_nx T E p)) = who
      · obtain ⟨q, hq'⟩ := y_227F (x := x) (kd := 7) (who := who) (ot := q_vl T (q_nx T E p) (q_ds T E (q_nx T E p))) (p := q_nx T E p + q_ds T E (q_nx T E p)) (f := q_nx T E p) hT yT (by omega) d.1 (by omega) (by omega)
        rw [X_cm x_pl1 (x_unlikeE (w := -1) hT (kT.tx x_pl1) p0 p1 (by omega) (by omega) g e), if_pos e, y_wrongY, zC_V, x_134F (by omega) (by omega), hq']
        exact z_lo.no R rfl rfl (by omega) hx.2.1
      · rw [X_cm x_pl1 (x_unlikeY (w := -1) hT (kT.tx x_pl1) p0 p1 (by omega) (by omega) w0 (by omega) g e), if_neg e]
        exact l_134 hT kT yT R (by decide) (fun v v0 v1 v2 => ⟨by decide, fun q => by omega, fun _ => ⟨w0, w1⟩, fun _ => ⟨by omega, by omega, e⟩, ⟨v0, v1⟩, v2, fun q => by omega, fun q => absurd rfl q⟩) x0 x1 (by omega) d.1 (by omega) d.1 rfl
    · obtain ⟨v, r, e, r0, r1, -, -⟩ := y_numN (lo := 0) (hi := (m : Int) - 1) hT yT (show 0 ≤ q_nx T E p' by omega) hx'.2.1 (by decide) (by decide) (by omega) (by omega) (show ¬ q_no T E 0 ((m : Int) - 1) (q_nx T E (q_nx T E p')) by rw [ee, ← hn]; exact g)
      rw [ee, ← hn] at e
      obtain ⟨q, hq'⟩ := y_199F (x := x) (kd := 7) (who := who) (ot := v) (y := q_nx T E p) (p := r) (f := q_nx T E p) hT yT r0 r1 (by omega) (by omega)
      rw [X_cm x_pl1 (x_unlikeN (w := -1) (who := who) hT (kT.tx x_pl1) p0 p1 (by omega) (by omega) g), ← hn, e, zC_I, x_134F (by omega) (by omega), hq']
      exact z_lo.no R rfl rfl (by omega) hx.2.1
  · rw [if_neg g7, if_neg g7]
    unfold J_Model_actLine_199
    rw [w32_of (a := kd) (by omega) (by omega), w32_of (a := 7) (by decide) (by decide), if_neg g7]
    exact l_134 hT kT yT R hk (hq g7) x0 x1 p0 p1 (by omega) hx'.2.1 (by rw [ee]; exact hn)
theorem l_who (hT : q_T T E) (kT : k_T 1 T E κ) (yT : y_T T E μ) (R : z_rest m dl a κ μ) (h0 : -1 ≤ hi) (h1 : hi ≤ 9999) (hk : kd = 0 ∨ kd = 1 ∨ kd = 3 ∨ kd = 4 ∨ kd = 5 ∨ kd = 6 ∨ kd = 7) (hq : ∀ u, 0 ≤ u → u ≤ hi → kd ≠ 7 → ∀ v, 0 ≤ v → v ≤ 9999 → (kd = 4 → v ≤ 60) → q_ac m dl kd u v (-1)) (h7 : ∀ u, 0 ≤ u → u ≤ hi → kd = 7 → 0 ≤ u ∧ u < m) (x0 : 0 ≤ x) (x1 : x ≤ E) (p0 : 0 ≤ p) (p1 : p ≤ E) : z_lo m dl a T E κ μ (zCm [1, 2] (X_t 1 κ p (-1)) (F_Text_takeNumber 0 hi (zVw [1, 2] (X_t 1 κ p (-1)))) (zkI (fun x8 μ7 => J_Ledger_readAct_99 x kd x8 (-1) 0 μ7)) zX0) (zC (F_Model_number 0 hi (y_t μ p (-1))) (zkI (fun x42 μ41 => J_Model_actLine_171 x kd x42 μ41)) zX0) := by
  have hx := q_nx_in hT p0 p1
  have hE := hT.1
  by_cases g : q_no T E 0 hi (q_nx T E p)
  · have d := q_ds_in (x := q_nx T E p) hT (by omega) hx.2.1
    rw [X_numY x_pl1 hT kT p0 p1 (by omega) (by omega) (by omega) (by omega) g, y_numY hT yT p0 p1 (by omega) (by omega) (by omega) (by omega) g, zC_I]
    exact l_99 hT kT yT R hk (hq _ g.2.2.1 g.2.2.2) (h7 _ g.2.2.1 g.2.2.2) x0 x1 (by omega) d.1 (by omega) d.1 rfl
  · obtain ⟨v, r, e, r0, r1, -, -⟩ := y_numN (lo := 0) (hi := hi) hT yT p0 p1 (by omega) (by omega) (by omega) (by omega) g
    obtain ⟨q, hq'⟩ := y_171F (x := x) (kd := kd) (who := v) (f := q_nx T E p) hT yT r0 r1 (by omega) (by omega)
    rw [X_numN x_pl1 hT kT p0 p1 (by omega) (by omega) (by omega) (by omega) g, e, zC_I, x_99F (by omega) (by omega), hq']
    exact z_lo.no R rfl rfl (by omega) hx.2.1
end TM
