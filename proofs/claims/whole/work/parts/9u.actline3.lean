/-! ===== the tape's acts: the word, the line ===== -/
section TN
variable {m dl a : Nat} {T : Int → Int} {E p p' w f x kd who sum ot lo hi : Int} {κ μ ν : ZMem}
theorem l_kind (hT : q_T T E) (hν : x_T T E ν) (yT : y_T T E μ) (p0' : 0 ≤ p') (p1' : p' ≤ E) (hx : q_nx T E p' = x) : ∃ kd p1, (kd = -1 ∨ kd = 0 ∨ kd = 1 ∨ kd = 3 ∨ kd = 4 ∨ kd = 5 ∨ kd = 6 ∨ kd = 7) ∧ 0 ≤ p1 ∧ p1 ≤ E ∧ F_Text_takeKind (x_t ν x (-1)) = some (.inr (some (zI kd)), x_t ν p1 (-1)) ∧ F_Model_actLine (y_t μ p' (-1)) = J_Model_actLine_106 x kd (y_t μ p1 (-1)) := by
  have hx' := q_nx_in hT p0' p1'
  have ee : q_nx T E x = x := by rw [← hx]; exact q_nx_nx hT p0' p1'
  rw [hx] at hx'
  have x0 : 0 ≤ x := by omega
  have x1 : x ≤ E := hx'.2.1
  have w0 : w32 0 = 0 := w32_of (by decide) (by decide)
  have w1 : w32 1 = 1 := w32_of (by decide) (by decide)
  have xN : ∀ j, j < 19 → ¬ q_wd T E j x → F_Text_takeWord j (x_t ν x (-1)) = some (.inr (some (zI 0)), x_t ν x (-1)) := fun j hj g => by
    have := x_wordN (w := -1) hT hν hj x0 x1 (by rw [ee]; exact g)
    rw [ee] at this
    exact this
  have xY : ∀ j, j < 19 → q_wd T E j x → F_Text_takeWord j (x_t ν x (-1)) = some (.inr (some (zI 1)), x_t ν (x + zSl j) (-1)) := fun j hj g => by
    have := x_wordY (w := -1) hT hν hj x0 x1 (by rw [ee]; exact g)
    rw [ee] at this
    exact this
  have yN : ∀ j, j < 19 → ¬ q_wd T E j x → F_Model_has j (y_t μ x (-1)) = some (.inr (some (zI 0)), y_t μ x (-1)) := fun j hj g => by
    have := y_hasN hT yT hj x0 x1 (by rw [ee]; exact g)
    rw [ee] at this
    exact this
  have yY : ∀ j, j < 19 → q_wd T E j x → F_Model_has j (y_t μ x (-1)) = some (.inr (some (zI 1)), y_t μ (x + zSl j) (-1)) := fun j hj g => by
    have := y_hasY hT yT hj x0 x1 (by rw [ee]; exact g)
    rw [ee] at this
    exact this
  have yh : F_Model_here (y_t μ p' (-1)) = some (.inr (some (zI x)), y_t μ x (-1)) := by
    have := y_here (f := -1) hT yT p0' p1'
    rw [hx] at this
    exact this
  by_cases g11 : q_wd T E 11 x
  · have hl := zSl_in (j := 11) (by decide)
    have hw := g11.1
    refine ⟨0, x + zSl 11, by decide, by omega, hw, ?_, ?_⟩
    · simp only [F_Text_takeKind, xY 11 (by decide) g11, zC_I, w0, w1, ↓reduceIte, Int.reduceEq]
    · simp only [F_Model_actLine, yh, yY 11 (by decide) g11, zC_I, w0, w1, ↓reduceIte, Int.reduceEq]
  by_cases g12 : q_wd T E 12 x
  · have hl := zSl_in (j := 12) (by decide)
    have hw := g12.1
    refine ⟨1, x + zSl 12, by decide, by omega, hw, ?_, ?_⟩
    · simp only [F_Text_takeKind, xN 11 (by decide) g11, xY 12 (by decide) g12, zC_I, w0, w1, ↓reduceIte, Int.reduceEq]
    · simp only [F_Model_actLine, yh, yN 11 (by decide) g11, yY 12 (by decide) g12, zC_I, w0, w1, ↓reduceIte, Int.reduceEq]
  by_cases g13 : q_wd T E 13 x
  · have hl := zSl_in (j := 13) (by decide)
    have hw := g13.1
    refine ⟨3, x + zSl 13, by decide, by omega, hw, ?_, ?_⟩
    · simp only [F_Text_takeKind, xN 11 (by decide) g11, xN 12 (by decide) g12, xY 13 (by decide) g13, zC_I, w0, w1, ↓reduceIte, Int.reduceEq]
    · simp only [F_Model_actLine, yh, yN 11 (by decide) g11, yN 12 (by decide) g12, yY 13 (by decide) g13, zC_I, w0, w1, ↓reduceIte, Int.reduceEq]
  by_cases g14 : q_wd T E 14 x
  · have hl := zSl_in (j := 14) (by decide)
    have hw := g14.1
    refine ⟨4, x + zSl 14, by decide, by omega, hw, ?_, ?_⟩
    · simp only [F_Text_takeKind, xN 11 (by decide) g11, xN 12 (by decide) g12, xN 13 (by decide) g13, xY 14 (by decide) g14, zC_I, w0, w1, ↓reduceIte, Int.reduceEq]
    · simp only [F_Model_actLine, yh, yN 11 (by decide) g11, yN 12 (by decide) g12, yN 13 (by decide) g13, yY 14 (by decide) g14, zC_I, w0, w1, ↓reduceIte, Int.reduceEq]
  by_cases g15 : q_wd T E 15 x
  · have hl := zSl_in (j := 15) (by decide)
    have hw := g15.1
    refine ⟨5, x + zSl 15, by decide, by omega, hw, ?_, ?_⟩
    · simp only [F_Text_takeKind, xN 11 (by decide) g11, xN 12 (by decide) g12, xN 13 (by decide) g13, xN 14 (by decide) g14, xY 15 (by decide) g15, zC_I, w0, w1, ↓reduceIte, Int.reduceEq]
    · simp only [F_Model_actLine, yh, yN 11 (by decide) g11, yN 12 (by decide) g12, yN 13 (by decide) g13, yN 14 (by decide) g14, yY 15 (by decide) g15, zC_I, w0, w1, ↓reduceIte, Int.reduceEq]
  by_cases g16 : q_wd T E 16 x
  · have hl := zSl_in (j := 16) (by decide)
    have hw := g16.1
    refine ⟨7, x + zSl 16, by decide, by omega, hw, ?_, ?_⟩
    · simp only [F_Text_takeKind, xN 11 (by decide) g11, xN 12 (by decide) g12, xN 13 (by decide) g13, xN 14 (by decide) g14, xN 15 (by decide) g15, xY 16 (by decide) g16, zC_I, w0, w1, ↓reduceIte, Int.reduceEq]
    · simp only [F_Model_actLine, yh, yN 11 (by decide) g11, yN 12 (by decide) g12, yN 13 (by decide) g13, yN 14 (by decide) g14, yN 15 (by decide) g15, yY 16 (by decide) g16, zC_I, w0, w1, ↓reduceIte, Int.reduceEq]
  by_cases g17 : q_wd T E 17 x
  · have hl := zSl_in (j := 17) (by decide)
    have hw := g17.1
    refine ⟨6, x + zSl 17, by decide, by omega, hw, ?_, ?_⟩
    · simp only [F_Text_takeKind, xN 11 (by decide) g11, xN 12 (by decide) g12, xN 13 (by decide) g13, xN 14 (by decide) g14, xN 15 (by decide) g15, xN 16 (by decide) g16, xY 17 (by decide) g17, zC_I, w0, w1, ↓reduceIte, Int.reduceEq]
    · simp only [F_Model_actLine, yh, yN 11 (by decide) g11, yN 12 (by decide) g12, yN 13 (by decide) g13, yN 14 (by decide) g14, yN 15 (by decide) g15, yN 16 (by decide) g16, yY 17 (by decide) g17, zC_I, w0, w1, ↓reduceIte, Int.reduceEq]
  refine ⟨-1, x, by decide, x0, x1, ?_, ?_⟩
  · simp only [F_Text_takeKind, xN 11 (by decide) g11, xN 12 (by decide) g12, xN 13 (by decide) g13, xN 14 (by decide) g14, xN 15 (by decide) g15, xN 16 (by decide) g16, xN 17 (by decide) g17, zC_I, w0, ↓reduceIte]
  · simp only [F_Model_actLine, yh, yN 11 (by decide) g11, yN 12 (by decide) g12, yN 13 (by decide) g13, yN 14 (by decide) g14, yN 15 (by decide) g15, yN 16 (by decide) g16, yN 17 (by decide) g17, zC_I, w0, ↓reduceIte]
theorem l_line (hT : q_T T E) (kT : k_T 1 T E κ) (yT : y_T T E μ) (R : z_rest m dl a κ μ) (p0 : 0 ≤ p) (p1 : p ≤ E) (p0' : 0 ≤ p') (p1' : p' ≤ E) (hn : q_nx T E p = q_nx T E p') : z_lo m dl a T E κ μ (F_Ledger_readAct (X_t 1 κ p (-1))) (F_Model_actLine (y_t μ p' (-1))) := by
  obtain ⟨hf, h6, hdl, ht, ⟨m5, m6, m11, ha⟩, ⟨k3, k4, k11⟩, hi, hq90, hs⟩ := R.all
  have hE := hT.1
  have hx := q_nx_in hT p0 p1
  obtain ⟨kd, q, hk, q0, q1, e1, e2⟩ := l_kind (ν := zVw [1, 2] (X_t 1 κ (q_nx T E p) (-1))) (μ := μ) (x := q_nx T E p) hT (kT.tx x_pl1) yT p0' p1' hn.symm
  have w5 : w32 5 = 5 := w32_of (by decide) (by decide)
  have w7 : w32 7 = 7 := w32_of (by decide) (by decide)
  have w4 : w32 4 = 4 := w32_of (by decide) (by decide)
  have w6 : w32 6 = 6 := w32_of (by decide) (by decide)
  have w3 : w32 3 = 3 := w32_of (by decide) (by decide)
  have w1 : w32 1 = 1 := w32_of (by decide) (by decide)
  have w0 : w32 0 = 0 := w32_of (by decide) (by decide)
  have wm : w32 (-1) = -1 := w32_of (by decide) (by decide)
  have c3 : X_t 1 κ q (-1) 3 3 = m := by rw [X_t_c (by decide)]; exact k3
  have c4 : X_t 1 κ q (-1) 3 4 = dl := by rw [X_t_c (by decide)]; exact k4
  have y5 : y_t μ q (-1) 0 5 = m := by rw [y_t_0 (by decide) (by decide)]; exact m5
  have y6 : y_t μ q (-1) 0 6 = dl := by rw [y_t_0 (by decide) (by decide)]; exact m6
  unfold F_Ledger_readAct
  rw [X_next x_pl1 hT kT p0 p1, X_cm x_pl1 e1, e2, wm, w5, w7, w4, w6]
  unfold J_Model_actLine_106
  rw [wm]
  rcases hk with rfl | rfl | rfl | rfl | rfl | rfl | rfl | rfl
  · rw [wm, if_pos rfl, if_pos rfl, X_refuse x_pl1, if_pos (Or.inl rfl), y_wrongY, zC_V]
    unfold J_Model_actLine_117
    obtain ⟨r, hr⟩ := y_171F (x := q_nx T E p) (kd := -1) (who := -1) (f := q_nx T E p) hT yT q0 q1 (by omega) (by omega)
    rw [wm, w1, w3, w5, w7, if_neg (by decide), if_neg (by decide), if_neg (by decide), if_neg (by decide), if_neg (by decide), hr]
    exact z_lo.no R rfl rfl (by omega) hx.2.1
  · rw [w0, if_neg (by decide), if_neg (by decide), if_neg (by decide), if_neg (by decide), if_neg (by decide), if_neg (by decide), c4]
    unfold J_Model_actLine_117 J_Model_actLine_131
    rw [w1, w3, w0, if_pos rfl, y6]
    exact l_who hT kT yT R (by omega) (by omega) (by decide) (fun u u0 u1 _ v v0 v1 v2 => ⟨by decide, fun _ => ⟨u0, by omega⟩, fun q => by omega, fun q => by omega, ⟨v0, v1⟩, v2, fun q => by omega, fun _ => rfl⟩) (fun u u0 u1 q => by omega) (by omega) hx.2.1 q0 q1
  · rw [w1, if_neg (by decide), if_neg (by decide), if_neg (by decide), if_neg (by decide), if_neg (by decide), if_neg (by decide), c4]
    unfold J_Model_actLine_117 J_Model_actLine_131
    rw [w1, w3, if_neg (by decide), if_pos rfl, y6]
    exact l_who hT kT yT R (by omega) (by omega) (by decide) (fun u u0 u1 _ v v0 v1 v2 => ⟨by decide, fun _ => ⟨u0, by omega⟩, fun q => by omega, fun q => by omega, ⟨v0, v1⟩, v2, fun q => by omega, fun _ => rfl⟩) (fun u u0 u1 q => by omega) (by omega) hx.2.1 q0 q1
  · rw [w3, if_neg (by decide), if_neg (by decide), if_neg (by decide), if_neg (by decide), if_neg (by decide), if_neg (by decide), c4]
    unfold J_Model_actLine_117 J_Model_actLine_131
    rw [w1, w3, if_neg (by decide), if_neg (by decide), if_pos rfl, y6]
    exact l_who hT kT yT R (by omega) (by omega) (by decide) (fun u u0 u1 _ v v0 v1 v2 => ⟨by decide, fun _ => ⟨u0, by omega⟩, fun q => by omega, fun q => by omega, ⟨v0, v1⟩, v2, fun q => by omega, fun _ => rfl⟩) (fun u u0 u1 q => by omega) (by omega) hx.2.1 q0 q1
  · rw [w4, if_neg (by decide), if_neg (by decide), if_neg (by decide), if_pos rfl, if_neg (by decide)]
    unfold J_Model_actLine_117
    rw [w4, w1, w3, w5, w7, if_neg (by decide), if_neg (by decide), if_neg (by decide), if_neg (by decide), if_neg (by decide)]
    exact l_99 hT kT yT R (by decide) (fun _ v v0 v1 v2 => ⟨by decide, fun q => by omega, fun q => by omega, fun q => by omega, ⟨v0, v1⟩, v2, fun _ => rfl, fun _ => rfl⟩) (fun q => by omega) (by omega) hx.2.1 q0 q1 q0 q1 rfl
  · rw [w5, if_neg (by decide), if_pos rfl, if_neg (by decide)]
    unfold J_Ledger_readAct_49 J_Model_actLine_117 J_Model_actLine_156
    rw [c3, w5, w1, w3, if_neg (by decide), if_neg (by decide), if_neg (by decide), if_pos rfl, y5]
    exact l_who hT kT yT R (by omega) (by omega) (by decide) (fun u u0 u1 _ v v0 v1 v2 => ⟨by decide, fun q => by omega, fun _ => ⟨u0, by omega⟩, fun q => by omega, ⟨v0, v1⟩, v2, fun q => by omega, fun _ => rfl⟩) (fun u u0 u1 q => by omega) (by omega) hx.2.1 q0 q1
  · rw [w6, if_neg (by decide), if_neg (by decide), if_neg (by decide), if_neg (by decide), if_pos rfl, if_neg (by decide)]
    unfold J_Model_actLine_117
    rw [w6, w1, w3, w5, w7, if_neg (by decide), if_neg (by decide), if_neg (by decide), if_neg (by decide), if_neg (by decide)]
    exact l_99 hT kT yT R (by decide) (fun _ v v0 v1 v2 => ⟨by decide, fun q => by omega, fun q => by omega, fun q => by omega, ⟨v0, v1⟩, v2, fun _ => rfl, fun _ => rfl⟩) (fun q => by omega) (by omega) hx.2.1 q0 q1 q0 q1 rfl
  · rw [w7, if_neg (by decide), if_neg (by decide), if_pos rfl, if_neg (by decide)]
    unfold J_Ledger_readAct_49 J_Model_actLine_117 J_Model_actLine_156
    rw [c3, w7, w1, w3, w5, if_neg (by decide), if_neg (by decide), if_neg (by decide), if_neg (by decide), if_pos rfl, y5]
    exact l_who hT kT yT R (by omega) (by omega) (by decide) (fun u u0 u1 q => absurd rfl q) (fun u u0 u1 _ => ⟨u0, by omega⟩) (by omega) hx.2.1 q0 q1
end TN
