/-! ===== the tape's acts: a line of both ===== -/
theorem x_pl1 : x_pl 1 [1, 2] := ⟨by decide, rfl, rfl⟩
def l_fr (κ κ' μ μ' : ZMem) : Prop := ((∀ c, c = 0 ∨ (2 ≤ c ∧ c < 11) ∨ 109 ≤ c → κ' c = κ c) ∧ κ' 1 1 = κ 1 1) ∧ (∀ c, c = 1 ∨ c = 2 ∨ c = 3 ∨ c = 4 ∨ c = 14 ∨ c = 15 → μ' c = μ c) ∧ (∀ k, k = 5 ∨ k = 6 ∨ k = 19 ∨ k = 21 ∨ k = 22 → μ' 0 k = μ 0 k) ∧ (q_z 300 (μ 8) → q_z 300 (μ' 8))
def z_lo (m dl a : Nat) (T : Int → Int) (E : Int) (κ μ : ZMem) (Rc Rm : Option ZRes) : Prop :=
  (∃ κ' μ', Rc = some (.inr (some (zI 1)), κ') ∧ Rm = some (.inr none, μ') ∧ z_rest m dl (a + 1) κ' μ' ∧ l_fr κ κ' μ μ' ∧ κ' 1 3 = -1 ∧ μ' 0 24 = -1 ∧ (0 ≤ κ' 1 2 ∧ κ' 1 2 ≤ E) ∧ (0 ≤ μ' 0 23 ∧ μ' 0 23 ≤ E) ∧ q_nx T E (κ' 1 2) = q_nx T E (μ' 0 23)) ∨
  (∃ κ' μ' f, Rc = some (.inr (some (zI 0)), κ') ∧ Rm = some (.inr none, μ') ∧ z_rest m dl a κ' μ' ∧ l_fr κ κ' μ μ' ∧ κ' 1 3 = f ∧ μ' 0 24 = f ∧ 0 ≤ f ∧ f ≤ E)
section TL
variable {m dl a : Nat} {T : Int → Int} {E p p' w f x kd who sum ot lo hi : Int} {κ μ ν : ZMem}
theorem z_rest.xy (R : z_rest m dl a κ μ) : z_rest m dl a (X_t 1 κ p w) (y_t μ p' f) := by
  obtain ⟨M, C⟩ := R
  refine ⟨M.cong (fun c c0 c1 => y_t_c (by omega)) (fun k hk => y_t_0 (by omega) (by omega)), ?_⟩
  rw [y_t_c (by decide), y_t_c (by decide), y_t_c (by decide), y_t_c (by decide)]
  exact C.cg (fun c c0 c1 => X_t_c (by omega))
theorem l_fr.xy : l_fr κ (X_t 1 κ p w) μ (y_t μ p' f) := ⟨⟨fun c hc => X_t_c (by omega), X_t_1⟩, fun c hc => y_t_c (by omega), fun k hk => y_t_0 (by omega) (by omega), fun q => by rw [y_t_c (by decide)]; exact q⟩
theorem z_lo.no {Rc Rm : Option ZRes} (R : z_rest m dl a κ μ) (e1 : Rc = some (.inr (some (zI 0)), X_t 1 κ p f)) (e2 : Rm = some (.inr none, y_t μ p' f)) (f0 : 0 ≤ f) (f1 : f ≤ E) : z_lo m dl a T E κ μ Rc Rm := Or.inr ⟨_, _, f, e1, e2, R.xy, l_fr.xy, X_t_3, y_t_24, f0, f1⟩
/-! where the text is wrong already -/
theorem y_304F (f0 : 0 ≤ f) (f1 : f ≤ 400) : J_Model_actLine_304 x kd who ot sum (y_t μ p f) = some (.inr none, y_t μ p f) := by
  unfold J_Model_actLine_304
  rw [y_t_24, w32_of (by omega) (by omega), w32_of (by decide) (by decide), if_neg (by omega)]
theorem y_285F (hT : q_T T E) (yT : y_T T E μ) (p0 : 0 ≤ p) (p1 : p ≤ E) (f0 : 0 ≤ f) (f1 : f ≤ 400) : ∃ q, J_Model_actLine_285 x kd who ot sum (y_t μ p f) = some (.inr none, y_t μ q f) := by
  unfold J_Model_actLine_285
  by_cases g : w32 kd = w32 1
  · exact ⟨_, by rw [if_pos g, y_hasF hT yT p0 p1 f0 f1, zC_I, w32_of (a := 0) (by decide) (by decide), if_pos rfl, y_304F f0 f1]⟩
  · exact ⟨_, by rw [if_neg g, y_304F f0 f1]⟩
theorem y_227F (hT : q_T T E) (yT : y_T T E μ) (p0 : 0 ≤ p) (p1 : p ≤ E) (f0 : 0 ≤ f) (f1 : f ≤ 400) : ∃ q, J_Model_actLine_227 x kd who ot (y_t μ p f) = some (.inr none, y_t μ q f) := by
  obtain ⟨q, hq⟩ := y_285F (x := x) (kd := kd) (who := who) (ot := ot) (sum := 0) hT yT p0 p1 f0 f1
  refine ⟨q, ?_⟩
  unfold J_Model_actLine_227 J_Model_actLine_237 J_Model_actLine_258
  rw [y_numF f0 f1, y_numF f0 f1, y_numF f0 f1, zC_I, hq]
  split
  · rfl
  · split
    · rfl
    · split
      · rfl
      · split
        · rfl
        · split
          · rfl
          · rfl
theorem y_199F {y : Int} (hT : q_T T E) (yT : y_T T E μ) (p0 : 0 ≤ p) (p1 : p ≤ E) (f0 : 0 ≤ f) (f1 : f ≤ 400) : ∃ q, J_Model_actLine_199 x kd who y ot (y_t μ p f) = some (.inr none, y_t μ q f) := by
  obtain ⟨q, hq⟩ := y_227F (x := x) (kd := kd) (who := who) (ot := ot) hT yT p0 p1 f0 f1
  refine ⟨q, ?_⟩
  unfold J_Model_actLine_199
  rw [y_t_24, w32_of (a := f) (by omega) (by omega), w32_of (a := -1) (by decide) (by decide), if_neg (show ¬ f = -1 by omega), hq]
  split
  · rfl
  · rfl
theorem y_171F (hT : q_T T E) (yT : y_T T E μ) (p0 : 0 ≤ p) (p1 : p ≤ E) (f0 : 0 ≤ f) (f1 : f ≤ 400) : ∃ q, J_Model_actLine_171 x kd who (y_t μ p f) = some (.inr none, y_t μ q f) := by
  have hx := q_nx_in hT p0 p1
  unfold J_Model_actLine_171
  rw [y_here hT yT p0 p1, zC_I]
  by_cases g : w32 kd = w32 7
  · obtain ⟨q, hq⟩ := y_199F (x := x) (kd := kd) (who := who) (ot := 0) (y := q_nx T E p) hT yT (show 0 ≤ q_nx T E p by omega) hx.2.1 f0 f1
    exact ⟨q, by rw [if_pos g, y_numF f0 f1, zC_I, hq]⟩
  · obtain ⟨q, hq⟩ := y_199F (x := x) (kd := kd) (who := who) (ot := -1) (y := q_nx T E p) hT yT (show 0 ≤ q_nx T E p by omega) hx.2.1 f0 f1
    exact ⟨q, by rw [if_neg g, hq]⟩
theorem x_196F (w0 : 0 ≤ w) (w1 : w ≤ 400) : J_Ledger_readAct_196 x kd who ot sum (X_t 1 κ p w) = some (.inr (some (zI 0)), X_t 1 κ p w) := by
  unfold J_Ledger_readAct_196
  rw [X_rightN x_pl1 w0 w1, w32_of (by decide) (by decide), if_pos rfl]
theorem x_134F (w0 : 0 ≤ w) (w1 : w ≤ 400) : J_Ledger_readAct_134 x kd who ot sum (X_t 1 κ p w) = some (.inr (some (zI 0)), X_t 1 κ p w) := by
  unfold J_Ledger_readAct_134
  rw [X_rightN x_pl1 w0 w1, w32_of (by decide) (by decide), if_pos rfl, x_196F w0 w1]
theorem x_99F (w0 : 0 ≤ w) (w1 : w ≤ 400) : J_Ledger_readAct_99 x kd who ot sum (X_t 1 κ p w) = some (.inr (some (zI 0)), X_t 1 κ p w) := by
  unfold J_Ledger_readAct_99
  rw [X_rightN x_pl1 w0 w1, w32_of (by decide) (by decide), if_pos rfl, x_134F w0 w1]
/-! the act itself -/
theorem x_256 : J_Ledger_readAct_256 x (X_t 1 κ p w) = some (.inr (some (zI 0)), X_t 1 κ p x) := by
  unfold J_Ledger_readAct_256
  rw [X_refuse x_pl1, if_pos (Or.inl rfl)]
theorem y_335 : J_Model_actLine_335 x (y_t μ p (-1)) = some (.inr none, y_t μ p x) := by
  unfold J_Model_actLine_335
  rw [y_wrongY, zC_V]
theorem l_304 (R : z_rest m dl a κ μ) (hq : q_ac m dl kd who sum ot) (x0 : 0 ≤ x) (x1 : x ≤ E) (p0 : 0 ≤ p) (p1 : p ≤ E) (p0' : 0 ≤ p') (p1' : p' ≤ E) (hn : q_nx T E p = q_nx T E p') : z_lo m dl a T E κ μ (J_Ledger_readAct_228 x kd who ot sum (X_t 1 κ p (-1))) (J_Model_actLine_304 x kd who ot sum (y_t μ p' (-1))) := by
  have R' : z_rest m dl a (X_t 1 κ p (-1)) (y_t μ p' (-1)) := R.xy
  obtain ⟨hf, h6, hdl, ht, ⟨m5, m6, m11, ha⟩, ⟨k3, k4, k11⟩, hi, hq90, hs⟩ := R'.all
  have q2 := R'.1.row.2.2.2.2.2.1
  have ec : F_State_canBe kd who sum ot (zVw plN (X_t 1 κ p (-1))) = some (.inr (some (zI (q_can m dl (y_t μ p' (-1) 4) kd who sum ot (y_t μ p' (-1) 5)))), zVw plN (X_t 1 κ p (-1))) := (s_canBe_w hs.1 hi h6 hdl hq).1
  have em := m_canBe m5 h6 m6 hdl hi hq
  unfold J_Ledger_readAct_228 J_Model_actLine_304
  rw [y_t_24, if_pos rfl, k11, m11, w32_of (a := (a : Int)) (by omega) (by omega), w32_of (a := 60) (by decide) (by decide)]
  by_cases g60 : a = 60
  · rw [if_pos (show (60 : Int) ≤ a by omega), if_pos (show (a : Int) = 60 by omega), x_256, y_335]
    exact z_lo.no R rfl rfl x0 x1
  · rw [if_neg (show ¬ (60 : Int) ≤ a by omega), if_neg (show ¬ (a : Int) = 60 by omega), ec, zCm_I, zMg_vw, em, zC_I]
    rcases q_can_01 (m := m) (dl := dl) (ex := y_t μ p' (-1) 4) (kd := kd) (who := who) (sum := sum) (ot := ot) (s := y_t μ p' (-1) 5) with g | g
    · rw [g, w32_of (by decide) (by decide), if_pos rfl, if_pos rfl, x_256, y_335]
      exact z_lo.no R rfl rfl x0 x1
    · obtain ⟨κ', r1, C', f1⟩ := k_write R'.2 hf R'.1.2.2.1 (by omega) hq (by rw [← q2]; exact g)
      obtain ⟨μ', r2, M', e8, e5, f2, f0⟩ := m_writesDown R'.1 (by omega) hq g
      rw [g, w32_of (by decide) (by decide), if_neg (by decide), if_neg (by decide), r1, zC_J, r2, zC_V]
      have v2 : κ' 1 2 = p := by rw [f1 1 (by decide)]; exact X_t_2
      have v3 : κ' 1 3 = -1 := by rw [f1 1 (by decide)]; exact X_t_3
      have u23 : μ' 0 23 = p' := by rw [f0 23 (by decide) (by decide) (by decide) (by decide)]; exact y_t_23
      have u24 : μ' 0 24 = -1 := by rw [f0 24 (by decide) (by decide) (by decide) (by decide)]; exact y_t_24
      rw [← q2] at C'
      refine Or.inl ⟨κ', μ', rfl, rfl, ⟨M', ?_⟩, ⟨⟨fun c hc => ?_, ?_⟩, fun c hc => ?_, fun k hk => ?_, fun z => ?_⟩, v3, u24, by rw [v2]; exact ⟨p0, p1⟩, by rw [u23]; exact ⟨p0', p1'⟩, by rw [v2, u23]; exact hn⟩
      · rw [f2 2 (by decide), f2 3 (by decide), f2 4 (by decide), e8]; exact C'
      · rw [f1 c (by omega), X_t_c (by omega)]
      · rw [f1 1 (by decide), X_t_1]
      · rw [f2 c (by omega), y_t_c (by omega)]
      · rw [f0 k (by omega) (by omega) (by omega) (by omega), y_t_0 (by omega) (by omega)]
      · rw [e8, y_t_c (by decide)]
        intro k hk
        rcases hk with hk | hk
        · rw [q_jw_lo (by omega)]; exact z k (Or.inl hk)
        · rw [q_jw_hi (by omega)]; exact z k (Or.inr hk)
theorem l_196 (hT : q_T T E) (kT : k_T 1 T E κ) (yT : y_T T E μ) (R : z_rest m dl a κ μ) (hq : q_ac m dl kd who sum ot) (hk2 : kd ≠ 2) (x0 : 0 ≤ x) (x1 : x ≤ E) (p0 : 0 ≤ p) (p1 : p ≤ E) (p0' : 0 ≤ p') (p1' : p' ≤ E) (hn : q_nx T E p = q_nx T E p') : z_lo m dl a T E κ μ (J_Ledger_readAct_196 x kd who ot sum (X_t 1 κ p (-1))) (J_Model_actLine_285 x kd who ot sum (y_t μ p' (-1))) := by
  have hk := hq.1
  have hx := q_nx_in hT p0 p1
  unfold J_Ledger_readAct_196 J_Model_actLine_285
  rw [X_rightY x_pl1, w32_of (a := kd) (by omega) (by omega), w32_of (a := 1) (by decide) (by decide), if_neg (show ¬ (1 : Int) = 0 by decide)]
  by_cases g : kd = 1
  · rw [if_pos g, if_pos g]
    by_cases gw : q_wd T E 18 (q_nx T E p)
    · have hl := gw.1
      have hz := zSl_in (j := 18) (by decide)
      rw [X_wordY x_pl1 hT kT p0 p1 (by decide) gw, y_hasY hT yT (by decide) p0' p1' (by rw [← hn]; exact gw), zC_I, w32_of (a := 1) (by decide) (by decide), if_neg (show ¬ (1 : Int) = 0 by decide), if_neg (show ¬ (1 : Int) = 0 by decide), hn]
      obtain ⟨a1, a2, a3, a4, a5, a6, a7, a8⟩ := hq
      exact l_304 R ⟨by decide, fun _ => a2 (by omega), fun q => by omega, fun q => by omega, a5, fun q => by omega, fun q => by omega, fun _ => a8 (by omega)⟩ x0 x1 (by omega) (by omega) (by omega) (by omega) rfl
    · rw [X_wordN x_pl1 hT kT p0 p1 (by decide) gw, y_hasN hT yT (by decide) p0' p1' (by rw [← hn]; exact gw), zC_I, w32_of (a := 0) (by decide) (by decide), if_pos rfl, if_pos rfl, hn]
      exact l_304 R hq x0 x1 (by omega) (by omega) (by omega) (by omega) rfl
  · rw [if_neg g, if_neg g]
    exact l_304 R hq x0 x1 p0 p1 p0' p1' hn
theorem l_num (hT : q_T T E) (kT : k_T 1 T E κ) (yT : y_T T E μ) (R : z_rest m dl a κ μ) (l0 : 0 ≤ lo) (l1 : lo ≤ 10000) (h0 : -1 ≤ hi) (h1 : hi ≤ 9999) (hq : ∀ v, lo ≤ v → v ≤ hi → q_ac m dl kd who v ot) (hk2 : kd ≠ 2) (x0 : 0 ≤ x) (x1 : x ≤ E) (p0 : 0 ≤ p) (p1 : p ≤ E) (p0' : 0 ≤ p') (p1' : p' ≤ E) (hn : q_nx T E p = q_nx T E p') : z_lo m dl a T E κ μ (zCm [1, 2] (X_t 1 κ p (-1)) (F_Text_takeNumber lo hi (zVw [1, 2] (X_t 1 κ p (-1)))) (zkI (fun x24 μ23 => J_Ledger_readAct_196 x kd who ot x24 μ23)) zX0) (zC (F_Model_number lo hi (y_t μ p' (-1))) (zkI (fun x28 μ27 => J_Model_actLine_285 x kd who ot x28 μ27)) zX0) := by
  have hx := q_nx_in hT p0 p1
  have hE := hT.1
  by_cases g : q_no T E lo hi (q_nx T E p)
  · have d := q_ds_in (x := q_nx T E p) hT (by omega) hx.2.1
    rw [X_numY x_pl1 hT kT p0 p1 (by omega) (by omega) (by omega) (by omega) g, y_numY hT yT p0' p1' (by omega) (by omega) (by omega) (by omega) (by rw [← hn]; exact g), zC_I, ← hn]
    exact l_196 hT kT yT R (hq _ g.2.2.1 g.2.2.2) hk2 x0 x1 (by omega) d.1 (by omega) d.1 rfl
  · obtain ⟨v, r, e, r0, r1, -, -⟩ := y_numN hT yT p0' p1' (by omega) (by omega) (by omega) (by omega) (show ¬ q_no T E lo hi (q_nx T E p') by rw [← hn]; exact g)
    rw [X_numN x_pl1 hT kT p0 p1 (by omega) (by omega) (by omega) (by omega) g, e, zC_I, x_196F (by omega) (by omega), ← hn]
    obtain ⟨q, hq'⟩ := y_285F (x := x) (kd := kd) (who := who) (ot := ot) (sum := v) (f := q_nx T E p) hT yT r0 r1 (by omega) (by omega)
    rw [hq']
    exact z_lo.no R rfl rfl (by omega) hx.2.1
end TL
