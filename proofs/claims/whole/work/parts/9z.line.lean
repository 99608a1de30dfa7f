/-! ===== the fund's lines, each ===== -/
section UC
variable {m dl : Nat} {T : Int → Int} {E p p' w f x v td : Int} {φ μ φ1 μ1 : ZMem}
theorem y_58F (f0 : 0 ≤ f) (f1 : f ≤ 400) : J_Model_fundLine_0_58 (y_t μ p f) = some (.inr none, y_t μ p f) := by
  unfold J_Model_fundLine_0_58
  rw [y_numF f0 f1, zC_I, y_t_24, w32_of (by omega) (by omega), w32_of (by decide) (by decide), if_neg (by omega)]
theorem y_121F (f0 : 0 ≤ f) (f1 : f ≤ 400) : J_Model_fundLine_0_121 (y_t μ p f) = some (.inr none, y_t (zUp (zUp μ 0 29 0) 0 30 1) p f) := by
  unfold J_Model_fundLine_0_121
  rw [y_numF f0 f1, zC_I, zLet_eq, zLet_eq, y_t_u0 (by decide) (by decide), y_t_u0 (by decide) (by decide)]
theorem g_line (hT : q_T T E) (kT : k_T 4 T E φ) (yT : y_T T E μ) (D : g_D m dl td φ μ) (p0 : 0 ≤ p) (p1 : p ≤ E) (p0' : 0 ≤ p') (p1' : p' ≤ E) (hn : q_nx T E p = q_nx T E p') : g_o T E φ μ g_Q (F_Fund_readLine (X_t 4 φ p (-1))) (F_Model_fundLine_0 (y_t μ p' (-1))) := by
  obtain ⟨⟨c3, c4, c5⟩, ⟨y28, y29, y30⟩, htd, ⟨h6, hdl⟩, ht, hp, he⟩ := id D
  have hE := hT.1
  have hx := q_nx_in hT p0 p1
  have ee := q_nx_nx hT p0 p1
  have w0 : w32 0 = 0 := w32_of (by decide) (by decide)
  have w1 : w32 1 = 1 := w32_of (by decide) (by decide)
  have z04 : (0 : Nat) ≠ 4 := by decide
  have y5 : ∀ q f, y_t μ q f 0 28 = m := fun q f => by rw [y_t_0 (by decide) (by decide)]; exact y28
  unfold F_Fund_readLine F_Model_fundLine_0
  rw [X_next x_pl4 hT kT p0 p1, y_here hT yT p0' p1', zC_I, ← hn]
  generalize hxx : q_nx T E p = x at *
  by_cases g8 : q_wd T E 8 x
  · have hl := zSl_in (j := 8) (by decide)
    have gl := g8.1
    rw [X_wordY x_pl4 hT kT (by omega) hx.2.1 (by decide) (by rw [ee]; exact g8), y_hasY hT yT (by decide) (by omega) hx.2.1 (by rw [ee]; exact g8), zC_I, w1, if_neg (show ¬ (1 : Int) = 0 by decide), if_neg (show ¬ (1 : Int) = 0 by decide), ee, X_t_c z04, c3, y5, w32_of (a := (m : Int)) (by omega) (by omega), w32_of (a := 6) (by decide) (by decide)]
    by_cases gm : m < 6
    · rw [if_pos (show (m : Int) < 6 by omega), if_neg (show ¬ (m : Int) = 6 by omega)]
      unfold J_Model_fundLine_0_58
      have hx2 := q_nx_in (p := x + zSl 8) hT (by omega) gl
      by_cases g : q_no T E 1 9999 (q_nx T E (x + zSl 8))
      · have d := q_ds_in (x := q_nx T E (x + zSl 8)) hT (by omega) hx2.2.1
        have gb := g.2.2
        rw [X_numY x_pl4 hT kT (by omega) gl (by decide) (by decide) (by decide) (by decide) g, y_numY hT yT (by omega) gl (by decide) (by decide) (by decide) (by decide) g, zC_I, zWr_ok (by omega) (by omega) (by omega), X_t_u (by decide), zLet_eq, X_t_c z04, zUp_ne (by decide), c3, X_t_u z04, X_rightY x_pl4, if_pos (Or.inr rfl), y_t_24, if_pos rfl, y5, zWr_ok (by omega) (by omega) (by omega), y_t_u (by decide), zLet_eq, y_t_0 (show (28 : Int) ≠ 23 by decide) (by decide), zUp_ne (by decide), y28, y_t_u0 (by decide) (by decide)]
        refine g_o.yes (m := m + 1) (dl := dl) (td := td) rfl rfl ⟨⟨by rw [zUp_at, q_up_at]; omega, by rw [zUp_at, q_up_ne (by decide), zUp_ne (by decide)]; exact c4, by rw [zUp_at, q_up_ne (by decide), zUp_ne (by decide)]; exact c5⟩, ⟨by rw [zUp_at, q_up_at]; omega, by rw [zUp_at, q_up_ne (by decide), zUp_ne (by decide)]; exact y29, by rw [zUp_at, q_up_ne (by decide), zUp_ne (by decide)]; exact y30⟩, htd, ⟨by omega, hdl⟩, ⟨fun i hi => by rw [zUp_ne (by decide), zUp_ne (by decide), zUp_ne (by decide), zUp_ne (by decide)]; exact ht.1 i hi, fun i a b => by rw [zUp_ne (by decide), zUp_ne (by decide)]; exact ht.2 i a b⟩, fun i hi => ?_, fun d hd => ?_⟩ ⟨by rw [zUp_ne (by decide), zUp_ne (by decide)], by rw [zUp_ne (by decide), zUp_ne (by decide)]⟩ (fun c c0 _ c17 _ => by rw [zUp_ne c0, zUp_ne c17]) (fun k k1 _ _ => by rw [zUp_at, q_up_ne k1, zUp_ne (by decide)]) (by omega) d.1
        · rw [zUp_ne (by decide), zUp_at, zUp_ne (by decide), zUp_at]
          by_cases e : i = m
          · subst e
            rw [q_up_at, q_up_at]
            exact ⟨rfl, gb⟩
          · rw [q_up_ne (by omega), q_up_ne (by omega)]
            exact hp i (by omega)
        · rw [zUp_ne (by decide), zUp_ne (by decide), zUp_ne (by decide), zUp_ne (by decide)]
          exact ⟨(he d hd).1, (he d hd).2.more gm⟩
      · obtain ⟨u, r, e, r0, r1, -, -⟩ := y_numN (lo := 1) (hi := 9999) hT yT (show 0 ≤ x + zSl 8 by omega) gl (by decide) (by decide) (by decide) (by decide) g
        rw [X_numN x_pl4 hT kT (by omega) gl (by decide) (by decide) (by decide) (by decide) g, zWr_ok (by omega) (by omega) (by omega), X_t_u (by decide), zLet_eq, X_t_c z04, zUp_ne (by decide), c3, X_t_u z04, X_rightN x_pl4 (by omega) (by omega), if_pos (Or.inl rfl), e, zC_I, y_t_24, w32_of (by omega) (by omega), w32_of (by decide) (by decide), if_neg (show ¬ q_nx T E (x + zSl 8) = -1 by omega)]
        exact g_o.no rfl rfl ⟨by rw [zUp_ne (by decide), zUp_ne (by decide)], by rw [zUp_ne (by decide), zUp_ne (by decide)]⟩ (fun c _ _ _ _ => rfl) (fun k _ _ _ => rfl) (by omega) hx2.2.1
    · rw [if_neg (show ¬ (m : Int) < 6 by omega), if_pos (show (m : Int) = 6 by omega), X_refuse x_pl4, if_pos (Or.inl rfl), y_wrongY, zC_V, y_58F (by omega) (by omega)]
      exact g_o.no rfl rfl ⟨rfl, rfl⟩ (fun c _ _ _ _ => rfl) (fun k _ _ _ => rfl) (by omega) hx.2.1
  rw [X_wordN x_pl4 hT kT (by omega) hx.2.1 (by decide) (by rw [ee]; exact g8), y_hasN hT yT (by decide) (by omega) hx.2.1 (by rw [ee]; exact g8), zC_I, w0, if_pos rfl, if_pos rfl, ee]
  by_cases g9 : q_wd T E 9 x
  · have hl := zSl_in (j := 9) (by decide)
    have gl := g9.1
    rw [X_wordY x_pl4 hT kT (by omega) hx.2.1 (by decide) (by rw [ee]; exact g9), y_hasY hT yT (by decide) (by omega) hx.2.1 (by rw [ee]; exact g9), zC_I, w1, if_neg (show ¬ (1 : Int) = 0 by decide), if_neg (show ¬ (1 : Int) = 0 by decide), ee, X_t_c z04, c5, y_t_0 (show (30 : Int) ≠ 23 by decide) (by decide), y30]
    rcases htd with rfl | rfl
    · rw [w0, if_pos rfl, if_pos rfl, zLet_eq, X_t_u z04]
      unfold J_Model_fundLine_0_121
      have kT1 : k_T 4 T E (zUp φ 0 5 1) := ⟨by rw [zUp_ne (by decide)]; exact kT.1, fun i i0 i1 => by rw [zUp_ne (by decide)]; exact kT.2 i i0 i1⟩
      have hx2 := q_nx_in (p := x + zSl 9) hT (by omega) gl
      by_cases g : q_no T E 0 6 (q_nx T E (x + zSl 9))
      · have d := q_ds_in (x := q_nx T E (x + zSl 9)) hT (by omega) hx2.2.1
        have gb := g.2.2
        rw [X_numY x_pl4 hT kT1 (by omega) gl (by decide) (by decide) (by decide) (by decide) g, y_numY hT yT (by omega) gl (by decide) (by decide) (by decide) (by decide) g, zC_I, zLet_eq, X_t_u z04, X_rightY x_pl4, if_pos (Or.inr rfl), zLet_eq, zLet_eq, y_t_u0 (by decide) (by decide), y_t_u0 (by decide) (by decide)]
        refine g_o.yes (m := m) (dl := (q_vl T (q_nx T E (x + zSl 9)) (q_ds T E (q_nx T E (x + zSl 9)))).toNat) (td := 1) rfl rfl ⟨⟨by rw [zUp_at, q_up_ne (by decide), zUp_at, q_up_ne (by decide)]; exact c3, by rw [zUp_at, q_up_at]; omega, by rw [zUp_at, q_up_ne (by decide), zUp_at, q_up_at]⟩, ⟨by rw [zUp_at, q_up_ne (by decide), zUp_at, q_up_ne (by decide)]; exact y28, by rw [zUp_at, q_up_ne (by decide), zUp_at, q_up_at]; omega, by rw [zUp_at, q_up_at]⟩, Or.inr rfl, ⟨h6, by omega⟩, ⟨fun i hi => by rw [zUp_ne (by decide), zUp_ne (by decide), zUp_ne (by decide), zUp_ne (by decide)]; exact ht.1 i hi, fun i a b => by rw [zUp_ne (by decide), zUp_ne (by decide)]; exact ht.2 i a b⟩, fun i hi => by rw [zUp_ne (by decide), zUp_ne (by decide), zUp_ne (by decide), zUp_ne (by decide)]; exact hp i hi, fun d hd => by rw [zUp_ne (by decide), zUp_ne (by decide), zUp_ne (by decide), zUp_ne (by decide)]; exact he d hd⟩ ⟨by rw [zUp_ne (by decide), zUp_ne (by decide)], by rw [zUp_ne (by decide), zUp_ne (by decide)]⟩ (fun c c0 _ _ _ => by rw [zUp_ne c0, zUp_ne c0]) (fun k _ k2 k3 => by rw [zUp_at, q_up_ne k3, zUp_at, q_up_ne k2]) (by omega) d.1
      · obtain ⟨u, r, e, r0, r1, -, -⟩ := y_numN (lo := 0) (hi := 6) hT yT (show 0 ≤ x + zSl 9 by omega) gl (by decide) (by decide) (by decide) (by decide) g
        rw [X_numN x_pl4 hT kT1 (by omega) gl (by decide) (by decide) (by decide) (by decide) g, zLet_eq, X_t_u z04, X_rightN x_pl4 (by omega) (by omega), if_pos (Or.inl rfl), e, zC_I, zLet_eq, zLet_eq, y_t_u0 (by decide) (by decide), y_t_u0 (by decide) (by decide)]
        exact g_o.no rfl rfl ⟨by rw [zUp_ne (by decide), zUp_ne (by decide)], by rw [zUp_ne (by decide), zUp_ne (by decide)]⟩ (fun c c0 _ _ _ => by rw [zUp_ne c0, zUp_ne c0]) (fun k _ k2 k3 => by rw [zUp_at, q_up_ne k3, zUp_at, q_up_ne k2]) (by omega) hx2.2.1
    · rw [w1, if_neg (show ¬ (1 : Int) = 0 by decide), if_neg (show ¬ (1 : Int) = 0 by decide), X_refuse x_pl4, if_pos (Or.inl rfl), y_wrongY, zC_V, y_121F (by omega) (by omega)]
      exact g_o.no rfl rfl ⟨rfl, rfl⟩ (fun c c0 _ _ _ => by rw [zUp_ne c0, zUp_ne c0]) (fun k _ k2 k3 => by rw [zUp_at, q_up_ne k3, zUp_at, q_up_ne k2]) (by omega) hx.2.1
  rw [X_wordN x_pl4 hT kT (by omega) hx.2.1 (by decide) (by rw [ee]; exact g9), y_hasN hT yT (by decide) (by omega) hx.2.1 (by rw [ee]; exact g9), zC_I, w0, if_pos rfl, if_pos rfl, ee]
  by_cases g10 : q_wd T E 10 x
  · have hl := zSl_in (j := 10) (by decide)
    have gl := g10.1
    rw [X_wordY x_pl4 hT kT (by omega) hx.2.1 (by decide) (by rw [ee]; exact g10), y_hasY hT yT (by decide) (by omega) hx.2.1 (by rw [ee]; exact g10), zC_I, w1, if_neg (show ¬ (1 : Int) = 0 by decide), if_neg (show ¬ (1 : Int) = 0 by decide), ee]
    rcases g_excuse (p := x + zSl 10) hT kT yT D (by omega) gl with ⟨φ', μ', a1, a2, a3⟩ | ⟨φ', μ', f, a1, a2, a3⟩
    · rw [a1, a2, zC_I, zC_V, if_pos (Or.inr rfl)]
      exact Or.inl ⟨φ', μ', rfl, rfl, a3⟩
    · rw [a1, a2, zC_I, zC_V, if_pos (Or.inl rfl)]
      exact Or.inr ⟨φ', μ', f, rfl, rfl, a3⟩
  rw [X_wordN x_pl4 hT kT (by omega) hx.2.1 (by decide) (by rw [ee]; exact g10), y_hasN hT yT (by decide) (by omega) hx.2.1 (by rw [ee]; exact g10), zC_I, w0, if_pos rfl, if_pos rfl, ee, X_refuse x_pl4, if_pos (Or.inl rfl), y_wrongY, zC_V]
  exact g_o.no rfl rfl ⟨rfl, rfl⟩ (fun c _ _ _ _ => rfl) (fun k _ _ _ => rfl) (by omega) hx.2.1
end UC
