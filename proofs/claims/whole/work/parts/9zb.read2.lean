/-! ===== the fund's text from its first word ===== -/
section UE
variable {m dl a : Nat} {T : Int → Int} {E p p' w f x v td : Int} {φ μ ν κ κ' : ZMem}
theorem f_clear (ν : ZMem) : ∃ ν', F_Fund_clear ν = some (.inr none, ν') ∧ (ν' 0 3 = 0 ∧ ν' 0 4 = 0 ∧ ν' 0 5 = 0) ∧ (∀ i, 0 ≤ i → i < 7 → ν' 1 i = 0) ∧ (∀ i, 0 ≤ i → i < 6 → ν' 2 i = 0 ∧ ν' 3 i = 0) := by
  generalize h1 : zMg [1] ν (q_fi (zVw [1] ν) 0 (fun _ => 0) (7 : Nat)) = ν1
  generalize h2 : zMg [2] ν1 (q_fi (zVw [2] ν1) 0 (fun _ => 0) (6 : Nat)) = ν2
  generalize h3 : zMg [3] ν2 (q_fi (zVw [3] ν2) 0 (fun _ => 0) (6 : Nat)) = ν3
  refine ⟨zUp (zUp (zUp ν3 0 3 0) 0 4 0) 0 5 0, ?_, ⟨?_, ?_, ?_⟩, fun i i0 i1 => ?_, fun i i0 i1 => ⟨?_, ?_⟩⟩
  · unfold F_Fund_clear
    rw [f_Arrays_fill_w8, zCm_V, h1, f_Arrays_fill_w4, zCm_V, h2, f_Arrays_fill_w4, zCm_V, h3, zLet_eq, zLet_eq, zLet_eq]
  · rw [zUp_at, q_up_ne (by decide), zUp_at, q_up_ne (by decide), zUp_at, q_up_at]
  · rw [zUp_at, q_up_ne (by decide), zUp_at, q_up_at]
  · rw [zUp_at, q_up_at]
  · rw [zUp_ne (by decide), zUp_ne (by decide), zUp_ne (by decide), ← h3, zMg_out (by decide), ← h2, zMg_out (by decide), ← h1, zMg_in (pl := [1]) (c := 1) (j := 0) (by decide), q_fi_in i0 (by omega)]
  · rw [zUp_ne (by decide), zUp_ne (by decide), zUp_ne (by decide), ← h3, zMg_out (by decide), ← h2, zMg_in (pl := [2]) (c := 2) (j := 0) (by decide), q_fi_in i0 (by omega)]
  · rw [zUp_ne (by decide), zUp_ne (by decide), zUp_ne (by decide), ← h3, zMg_in (pl := [3]) (c := 3) (j := 0) (by decide), q_fi_in i0 (by omega)]
theorem zNew_y {c : Nat} (h : c ≠ 0) : zNew (y_t μ p f) c = y_t (zNew μ c) p f := by
  funext c' i'
  have e : ∀ ν : ZMem, zNew ν c c' i' = if c' = c then 0 else ν c' i' := fun _ => rfl
  unfold y_t zUp
  by_cases h1 : c' = c
  · rw [e, if_pos h1, if_neg (by omega), if_neg (by omega), e, if_pos h1]
  · rw [e, if_neg h1, e, if_neg h1]
theorem zNew_ne {c c' : Nat} (h : c' ≠ c) : zNew μ c c' = μ c' := by
  funext i
  exact if_neg h
theorem g_V0 : g_V 0 0 := ⟨by decide, by decide, fun i _ hi => by
  have : ∀ i : Nat, i < 6 → ¬ w32 (zand (zshr 0 (i : Int)) 1) = 1 := by decide +kernel
  exact this i hi, fun h => absurd h (Nat.lt_irrefl _)⟩
theorem g_read (hT : q_T T E) (kT : k_T 4 T E φ) (yT : y_T T E μ) (hM : m_top μ) (hE0 : 0 ≤ E) (h28 : μ 0 28 = 0 ∧ μ 0 29 = 0 ∧ μ 0 30 = 0) (h18 : ∀ i : Nat, i < 6 → μ 18 i = 0) :
    g_R E φ μ (F_Fund_readFrom (X_t 4 φ 0 (-1))) (zC (F_Model_fundLine_1 (y_t μ 0 (-1))) (zkV (fun μ9 => zC (F_Model_comesMore 1 14 μ9) (zkI (fun x12 μ11 => L_Model_fund_44 kFd zN 1 x12 μ11)) zX0)) zX0) := by
  have hE := hT.1
  have hx := q_nx_in (p := 0) hT (by decide) hE0
  have ee := q_nx_nx (p := 0) hT (by decide) hE0
  have w0 : w32 0 = 0 := w32_of (by decide) (by decide)
  have w1 : w32 1 = 1 := w32_of (by decide) (by decide)
  obtain ⟨fr, hfr⟩ : ∃ i, zN = i + 1 := ⟨zN - 1, by have := zN_gt (m := 1) (by decide); omega⟩
  have hbig : 500 < fr := by have := zN_gt (m := 501) (by decide); omega
  obtain ⟨ν', r, z0, z1, z23⟩ := f_clear (zVw [0, 1, 2, 3] (X_t 4 φ 0 (-1)))
  have d0 : zMg [0, 1, 2, 3] (X_t 4 φ 0 (-1)) ν' 0 = ν' 0 := zMg_in (pl := [0, 1, 2, 3]) (c := 0) (by decide)
  have d1 : zMg [0, 1, 2, 3] (X_t 4 φ 0 (-1)) ν' 1 = ν' 1 := zMg_in (pl := [0, 1, 2, 3]) (c := 1) (by decide)
  have d2 : zMg [0, 1, 2, 3] (X_t 4 φ 0 (-1)) ν' 2 = ν' 2 := zMg_in (pl := [0, 1, 2, 3]) (c := 2) (by decide)
  have d3 : zMg [0, 1, 2, 3] (X_t 4 φ 0 (-1)) ν' 3 = ν' 3 := zMg_in (pl := [0, 1, 2, 3]) (c := 3) (by decide)
  have d4 : zMg [0, 1, 2, 3] (X_t 4 φ 0 (-1)) ν' 4 = X_t 4 φ 0 (-1) 4 := zMg_out (by decide)
  have d5 : zMg [0, 1, 2, 3] (X_t 4 φ 0 (-1)) ν' 5 = φ 5 := by rw [zMg_out (by decide), X_t_c (by decide)]
  generalize hφ1 : zMg [0, 1, 2, 3] (X_t 4 φ 0 (-1)) ν' = φ1 at *
  have sx : X_t 4 φ1 0 (-1) = φ1 := X_t_self (by rw [d4]; exact X_t_2) (by rw [d4]; exact X_t_3)
  have kT1 : k_T 4 T E φ1 := ⟨by rw [d4, X_t_1]; exact kT.1, fun i i0 i1 => by show φ1 5 i = T i; rw [d5]; exact kT.2 i i0 i1⟩
  have fr1 : g_fr φ φ1 μ μ := ⟨⟨d5, fun k a b => by rw [d4]; unfold X_t; rw [zUp_at, q_up_ne b, zUp_at, q_up_ne a]⟩, fun _ _ _ _ _ _ => rfl, fun _ _ _ _ _ _ => rfl⟩
  have frN : ∀ {φ' μ' : ZMem}, g_fr φ1 φ' (zNew μ 25) μ' → g_fr φ φ' μ μ' := fun {φ' μ'} h => fr1.tr ⟨h.1, fun c a b d e f => by rw [h.2.1 c a b d e f, zNew_ne f], fun k a b d e f => by rw [h.2.2 k a b d e f, zNew_ne (by decide)]⟩
  have yTN : y_T T E (zNew μ 25) := ⟨by rw [zNew_ne (by decide)]; exact yT.1, fun i i0 i1 => by rw [zNew_ne (by decide)]; exact yT.2 i i0 i1⟩
  unfold F_Fund_readFrom F_Model_fundLine_1
  rw [r, zCm_V, hφ1, ← sx, y_here hT yT (by decide) hE0, zC_I]
  by_cases g : q_wd T E 7 (q_nx T E 0)
  · have hl := zSl_in (j := 7) (by decide)
    have gl := g.1
    rw [X_wordY x_pl4 hT kT1 (by decide) hE0 (by decide) g, y_hasY hT yT (by decide) (by omega) hx.2.1 (by rw [ee]; exact g), zC_I, w1, if_neg (show ¬ (1 : Int) = 0 by decide), if_neg (show ¬ (1 : Int) = 0 by decide), ee]
    unfold F_Fund_readTerms F_Model_termLine
    rw [zLet_eq, zNew_y (by decide)]
    rcases g_T0 (p := q_nx T E 0 + zSl 7) (p' := q_nx T E 0 + zSl 7) hT kT1 yTN (fun i hi => by rw [zNew_ne (by decide)]; exact hM i hi) ⟨fun i hi => absurd hi (Nat.not_lt_zero _), fun i _ hi => by rw [d1]; exact z1 i (by omega) (by omega)⟩ (by omega) gl (by omega) gl rfl with ⟨φ', μ', a1, a2, ⟨t7, ⟨e0, e2, e3⟩, ⟨e17, e18⟩, e28⟩, fr', v3, u24, vp, up, hn'⟩ | ⟨φ', μ', f, a1, a2, fr', v3, u24, f0, f1⟩
    · have sx' : X_t 4 φ' (φ' 4 2) (-1) = φ' := X_t_self rfl v3
      have sy' : y_t μ' (μ' 0 23) (-1) = μ' := by unfold y_t; rw [zUp_self rfl, zUp_self u24]
      have D : g_D 0 0 0 φ' μ' := by
        refine ⟨⟨?_, ?_, ?_⟩, ⟨?_, ?_, ?_⟩, Or.inl rfl, ⟨by decide, by decide⟩, t7, fun i hi => absurd hi (Nat.not_lt_zero _), fun d hd => ?_⟩
        · rw [e0, d0]; exact z0.1
        · rw [e0, d0]; exact z0.2.1
        · rw [e0, d0]; exact z0.2.2
        · rw [e28 28 (by decide), zNew_ne (by decide)]; exact h28.1
        · rw [e28 29 (by decide), zNew_ne (by decide)]; exact h28.2.1
        · rw [e28 30 (by decide), zNew_ne (by decide)]; exact h28.2.2
        · rw [e3, d3, e18, zNew_ne (by decide), h18 d hd, (z23 d (by omega) (by omega)).2]
          exact ⟨rfl, g_V0⟩
      have := g_loop hT 13 1 zN zN 0 0 0 φ' μ' (φ' 4 2) (μ' 0 23) rfl (by decide) (zN_gt (by decide)) (zN_gt (by decide)) (fr'.kT kT1) (fr'.yT yTN) D vp.1 vp.2 up.1 up.2 hn'
      rw [sx', sy'] at this
      rw [a1, a2, zC_I, w1, if_neg (show ¬ (1 : Int) = 0 by decide), zC_V, zC_V]
      exact this.tr (frN fr')
    · have sy' : y_t μ' (μ' 0 23) f = μ' := by unfold y_t; rw [zUp_self rfl, zUp_self u24]
      rw [a1, a2, zC_I, w0, if_pos rfl, zC_V, zC_V, ← sy', y_moreF f0 (by omega), zC_I, hfr, L_Model_fund_44, w0, if_pos rfl, kFd_F f0 (by omega), sy']
      exact Or.inr ⟨φ', μ', f, rfl, rfl, frN fr', v3, u24, f0, f1⟩
  · rw [X_wordN x_pl4 hT kT1 (by decide) hE0 (by decide) g, y_hasN hT yT (by decide) (by omega) hx.2.1 (by rw [ee]; exact g), zC_I, w0, if_pos rfl, if_pos rfl, ee, X_refuseNext x_pl4 hT kT1 (by omega) hx.2.1, ee, if_pos (Or.inl rfl), y_wrongY, zC_V, zC_V, y_moreF (by omega) (by omega), zC_I, hfr, L_Model_fund_44, w0, if_pos rfl, kFd_F (by omega) (by omega)]
    exact (g_R.no rfl rfl (by omega) hx.2.1).tr fr1
theorem c_at.cg2 {tm ex pr J : Int → Int} (h : c_at m dl a tm ex pr J κ) (f : ∀ c, (3 ≤ c ∧ c ≤ 6) ∨ (11 ≤ c ∧ c < 33) → κ' c = κ c) : c_at m dl a tm ex pr J κ' := by
  obtain ⟨h1, h2, h3, h4⟩ := h
  refine ⟨?_, ?_, h3.vw (fun c hc => f c (by omega)), by rw [f 32 (by decide)]; exact h4⟩
  · rw [f 3 (by decide), f 4 (by decide), f 5 (by decide), f 6 (by decide)]
    exact h1
  · rw [f 11 (by decide), f 12 (by decide)]
    exact h2
end UE
