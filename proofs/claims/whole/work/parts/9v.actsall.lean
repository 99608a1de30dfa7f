/-! ===== the tape's acts: all lines ===== -/
section TO
variable {m dl a : Nat} {T : Int → Int} {E p p' w f x kd who sum ot lo hi : Int} {κ μ ν : ZMem}
theorem y_moreF {n : Int} (f0 : 0 ≤ f) (f1 : f ≤ 400) : F_Model_comesMore n 14 (y_t μ p f) = some (.inr (some (zI 0)), y_t μ p f) := by
  unfold F_Model_comesMore
  rw [y_t_24, w32_of (by omega) (by omega), w32_of (by decide) (by decide), if_neg (by omega)]
theorem y_100 : J_Model_comesMore_100 (y_t μ p (-1)) = some (.inr (some (zI 1)), y_t μ p (-1)) := by
  unfold J_Model_comesMore_100
  rw [y_t_24, if_pos rfl]
theorem y_100F (f0 : 0 ≤ f) (f1 : f ≤ 400) : J_Model_comesMore_100 (y_t μ p f) = some (.inr (some (zI 0)), y_t μ p f) := by
  unfold J_Model_comesMore_100
  rw [y_t_24, w32_of (by omega) (by omega), w32_of (by decide) (by decide), if_neg (by omega)]
theorem y_79F {n : Int} (f0 : 0 ≤ f) (f1 : f ≤ 400) : J_Model_comesMore_79 n 14 (y_t μ p f) = some (.inr (some (zI 0)), y_t μ p f) := by
  unfold J_Model_comesMore_79
  rw [y_t_24, w32_of (by omega) (by omega), w32_of (by decide) (by decide), if_neg (by omega), y_100F f0 f1]
theorem y_more0 (hT : q_T T E) (yT : y_T T E μ) (p0 : 0 ≤ p) (p1 : p ≤ E) : F_Model_comesMore 0 14 (y_t μ p (-1)) = some (.inr (some (zI (if q_nx T E p = E then 0 else 1))), y_t μ (q_nx T E p) (-1)) := by
  have hE := hT.1
  have hx := q_nx_in hT p0 p1
  unfold F_Model_comesMore
  rw [y_t_24, if_pos rfl, w32_of (a := 0) (by decide) (by decide), if_pos rfl, y_here hT yT p0 p1, zC_I, y_t_0 (by decide) (by decide), yT.1, w32_of (by omega) (by omega), w32_of (by omega) (by omega)]
  by_cases e : q_nx T E p = E
  · rw [if_pos (by omega), if_pos e]
  · rw [if_neg (by omega), if_neg e]
variable {n : Int}
theorem y_moreE (hT : q_T T E) (yT : y_T T E μ) (p0 : 0 ≤ p) (p1 : p ≤ E) (n0 : 1 ≤ n) (n1 : n ≤ 14) (e : q_nx T E p = E) : F_Model_comesMore n 14 (y_t μ p (-1)) = some (.inr (some (zI 0)), y_t μ (q_nx T E p) (-1)) := by
  have hE := hT.1
  unfold F_Model_comesMore
  rw [y_t_24, if_pos rfl, w32_of (a := n) (by omega) (by omega), if_neg (by omega), y_here hT yT p0 p1, zC_I, y_t_0 (by decide) (by decide), yT.1, e, if_pos rfl]
theorem y_moreN (hT : q_T T E) (yT : y_T T E μ) (p0 : 0 ≤ p) (p1 : p ≤ E) (n0 : 1 ≤ n) (n1 : n ≤ 14) (e : ¬ q_nx T E p = E) (hs : ¬ q_sm1 T E (q_nx T E p)) : F_Model_comesMore n 14 (y_t μ p (-1)) = some (.inr (some (zI 0)), y_t μ (q_nx T E p) (q_nx T E p)) := by
  have hE := hT.1
  have hx := q_nx_in hT p0 p1
  have tb := hT.2 (q_nx T E p) (by omega) (by omega)
  unfold F_Model_comesMore
  rw [y_t_24, if_pos rfl, w32_of (a := n) (by omega) (by omega), if_neg (by omega), y_here hT yT p0 p1, zC_I, y_t_0 (by decide) (by decide), yT.1, w32_of (by omega) (by omega), w32_of (by omega) (by omega), if_neg e, y_t_23, zRd_ok (by omega) (by omega) (by omega), y_t_c (by decide), yT.2 _ (by omega) (by omega), w32_of (by omega) (by omega), w32_of (by decide) (by decide), if_neg (fun q => hs ⟨by omega, q⟩), y_wrongY, zC_V, y_79F (by omega) (by omega)]
theorem y_moreS (hT : q_T T E) (yT : y_T T E μ) (p0 : 0 ≤ p) (p1 : p ≤ E) (n0 : 1 ≤ n) (n1 : n ≤ 14) (hs : q_sm1 T E (q_nx T E p)) : F_Model_comesMore n 14 (y_t μ p (-1)) = if n = 14 then some (.inr (some (zI 0)), y_t μ (q_nx T E (q_nx T E p + 1)) (q_nx T E (q_nx T E p + 1))) else some (.inr (some (zI 1)), y_t μ (q_nx T E p + 1) (-1)) := by
  have hE := hT.1
  have hx := q_nx_in hT p0 p1
  obtain ⟨s1, s2⟩ := hs
  have hx2 := q_nx_in (p := q_nx T E p + 1) hT (by omega) (by omega)
  unfold F_Model_comesMore
  rw [y_t_24, if_pos rfl, w32_of (a := n) (by omega) (by omega), if_neg (by omega), y_here hT yT p0 p1, zC_I, y_t_0 (by decide) (by decide), yT.1, w32_of (by omega) (by omega), w32_of (by omega) (by omega), if_neg (by omega), y_t_23, zRd_ok (by omega) (by omega) (by omega), y_t_c (by decide), yT.2 _ (by omega) (by omega), s2, if_pos rfl, zLet_eq, y_t_p]
  unfold J_Model_comesMore_79
  rw [y_t_24, if_pos rfl, w32_of (a := n) (by omega) (by omega), w32_of (a := 14) (by decide) (by decide)]
  by_cases e : n = 14
  · rw [if_pos e, if_pos e, y_here hT yT (by omega) (by omega), zC_I, y_wrongY, zC_V, y_100F (by omega) (by omega)]
  · rw [if_neg e, if_neg e, y_100]
/-- how the reading of all lines ends -/
def z_ro (m dl a : Nat) (E : Int) (κ μ : ZMem) (Rc : Option ZRes) (Kr : Int → ZMem → Option ZRes) (Rm : Option ZRes) (n : Nat) : Prop :=
  (∃ κ' μ' i, Rc = some (.inr (some (zI 1)), κ') ∧ Rm = Kr ((n + i : Nat) : Int) μ' ∧ z_rest m dl (a + i) κ' μ' ∧ l_fr κ κ' μ μ' ∧ κ' 1 3 = -1 ∧ μ' 0 24 = -1) ∨
  (∃ κ' μ' i f v, Rc = some (.inr (some (zI 0)), κ') ∧ Rm = Kr v μ' ∧ z_rest m dl (a + i) κ' μ' ∧ l_fr κ κ' μ μ' ∧ κ' 1 3 = f ∧ μ' 0 24 = f ∧ 0 ≤ f ∧ f ≤ E)
theorem l_fr.tr {κ1 κ2 μ1 μ2 : ZMem} (h1 : l_fr κ κ1 μ μ1) (h2 : l_fr κ1 κ2 μ1 μ2) : l_fr κ κ2 μ μ2 := ⟨⟨fun c hc => (h2.1.1 c hc).trans (h1.1.1 c hc), h2.1.2.trans h1.1.2⟩, fun c hc => (h2.2.1 c hc).trans (h1.2.1 c hc), fun k hk => (h2.2.2.1 k hk).trans (h1.2.2.1 k hk), fun q => h2.2.2.2 (h1.2.2.2 q)⟩
theorem l_fr.kT {κ' μ' : ZMem} (h : l_fr κ κ' μ μ') (k : k_T 1 T E κ) : k_T 1 T E κ' := ⟨h.1.2.trans k.1, fun i i0 i1 => by rw [h.1.1 2 (by decide)]; exact k.2 i i0 i1⟩
theorem l_fr.yT {κ' μ' : ZMem} (h : l_fr κ κ' μ μ') (k : y_T T E μ) : y_T T E μ' := ⟨(h.2.2.1 22 (by decide)).trans k.1, fun i i0 i1 => by rw [h.2.1 15 (by decide)]; exact k.2 i i0 i1⟩
abbrev kAct : ZMem → Option ZRes := fun μ12 => zCm [1, 2] μ12 (F_Text_refuseNext  (zVw [1, 2] μ12)) (zkI (fun x14 μ13 => if x14 = 0 ∨ x14 = 1 then some (.inr (some (zI x14)), μ13) else none)) zX0
theorem l_acts (hT : q_T T E) (c1 : Int) (Kr : Int → ZMem → Option ZRes) : ∀ (k n a : Nat) (fc fr : Nat) (κ μ : ZMem) (p p' : Int), n + k = 13 → k + 1 < fc → k + 2 < fr → k_T 1 T E κ → y_T T E μ → z_rest m dl a κ μ → 0 ≤ p → p ≤ E → 0 ≤ p' → p' ≤ E → q_nx T E p = q_nx T E p' →
    z_ro m dl a E κ μ (L_Ledger_readActs_14 kAct fc ((n : Int) + 1) (X_t 1 κ p (-1))) Kr (zC (F_Model_actLine (y_t μ p' (-1))) (zkV (fun μ6 => zLet ((n : Int) + 1) (fun x8 => L_Model_acts_w2_11 c1 Kr fr x8 μ6))) zX0) n
  | k, n, a, fc, fr, κ, μ, p, p', hk, hfc, hfr, kT, yT, R, p0, p1, p0', p1', hn => by
    obtain ⟨fc, rfl⟩ : ∃ i, fc = i + 1 := ⟨fc - 1, by omega⟩
    obtain ⟨fr, rfl⟩ : ∃ i, fr = i + 1 := ⟨fr - 1, by omega⟩
    have hE := hT.1
    have w0 : w32 0 = 0 := w32_of (by decide) (by decide)
    have w1 : w32 1 = 1 := w32_of (by decide) (by decide)
    rw [L_Ledger_readActs_14, w32_of (a := 14) (by decide) (by decide), w32_of (a := (n : Int) + 1) (by omega) (by omega), if_neg (show ¬ (14 : Int) < (n : Int) + 1 by omega)]
    rcases l_line hT kT yT R p0 p1 p0' p1' hn with ⟨κ', μ', e1, e2, R', fr', v3, u24, vp, up, hn'⟩ | ⟨κ', μ', f, e1, e2, R', fr', v3, u24, f0, f1⟩
    · have kT' := fr'.kT kT
      have yT' := fr'.yT yT
      have hx := q_nx_in hT vp.1 vp.2
      have sx : X_t 1 κ' (κ' 1 2) (-1) = κ' := X_t_self rfl v3
      have sy : y_t μ' (μ' 0 23) (-1) = μ' := by unfold y_t; rw [zUp_self rfl, zUp_self u24]
      generalize hv : κ' 1 2 = q at *
      generalize hu : μ' 0 23 = q' at *
      rw [e1, zC_I, w1, if_neg (by decide), e2, zC_V, zLet_eq, L_Model_acts_w2_11]
      rw [← sx, ← sy, X_through x_pl1 hT kT' vp.1 vp.2]
      by_cases g : q_nx T E q = E
      · rw [if_pos g, w1, if_neg (by decide), y_moreE hT yT' up.1 up.2 (by omega) (by omega) (by rw [← hn']; exact g), zC_I, w0, if_pos rfl]
        exact Or.inl ⟨_, _, 1, rfl, rfl, R'.xy, fr'.tr l_fr.xy, X_t_3, y_t_24⟩
      · rw [if_neg g, w0, if_pos rfl]
        have hxx := q_nx_nx hT vp.1 vp.2
        by_cases gs : q_sm1 T E (q_nx T E q)
        · have gs1 := gs.1
          rw [X_semiY x_pl1 hT kT' (show 0 ≤ q_nx T E q by omega) hx.2.1 (by rw [hxx]; exact gs), hxx, w1, if_neg (by decide), zLet_eq, y_moreS hT yT' up.1 up.2 (by omega) (by omega) (by rw [← hn']; exact gs), ← hn']
          have hx2 := q_nx_in (p := q_nx T E q + 1) hT (by omega) (by omega)
          by_cases g14 : (n : Int) + 1 = 14
          · obtain ⟨fc, rfl⟩ : ∃ i, fc = i + 1 := ⟨fc - 1, by omega⟩
            rw [if_pos g14, L_Ledger_readActs_14, w32_of (a := 14) (by decide) (by decide), w32_of (a := (n : Int) + 1 + 1) (by omega) (by omega), if_pos (show (14 : Int) < (n : Int) + 1 + 1 by omega), zC_I, w0, if_pos rfl]
            show z_ro m dl a E κ μ (zCm [1, 2] (X_t 1 κ' (q_nx T E q + 1) (-1)) _ _ _) Kr _ n
            rw [X_refuseNext x_pl1 hT kT' (show 0 ≤ q_nx T E q + 1 by omega) (by omega), if_pos (Or.inl rfl)]
            exact Or.inr ⟨_, _, 1, q_nx T E (q_nx T E q + 1), (n : Int) + 1, rfl, rfl, R'.xy, fr'.tr l_fr.xy, X_t_3, y_t_24, by omega, hx2.2.1⟩
          · rw [if_neg g14, zC_I, w1, if_neg (by decide)]
            match k, hk, hfc, hfr with
            | 0, hk, hfc, hfr => exact absurd hk (by omega)
            | k + 1, hk, hfc, hfr =>
            have := l_acts hT c1 Kr k (n + 1) (a + 1) fc fr κ' μ' (q_nx T E q + 1) (q_nx T E q + 1) (by omega) (by omega) (by omega) kT' yT' R' (by omega) (by omega) (by omega) (by omega) rfl
            rw [show (((n + 1 : Nat) : Int) + 1) = (n : Int) + 1 + 1 by omega] at this
            rcases this with ⟨κ2, μ2, i, a1, a2, a3, a4, a5, a6⟩ | ⟨κ2, μ2, i, f, v, a1, a2, a3, a4, a5⟩
            · exact Or.inl ⟨κ2, μ2, i + 1, a1, by rw [a2, show n + 1 + i = n + (i + 1) by omega], by rw [show a + (i + 1) = a + 1 + i by omega]; exact a3, fr'.tr a4, a5, a6⟩
            · exact Or.inr ⟨κ2, μ2, i + 1, f, v, a1, a2, by rw [show a + (i + 1) = a + 1 + i by omega]; exact a3, fr'.tr a4, a5⟩
        · rw [X_semiN x_pl1 hT kT' (show 0 ≤ q_nx T E q by omega) hx.2.1 (by rw [hxx]; exact gs), hxx, w0, if_pos rfl, X_refuseNext x_pl1 hT kT' (show 0 ≤ q_nx T E q by omega) hx.2.1, hxx, if_pos (Or.inl rfl), y_moreN hT yT' up.1 up.2 (by omega) (by omega) (by rw [← hn']; exact g) (by rw [← hn']; exact gs), zC_I, w0, if_pos rfl, ← hn']
          exact Or.inr ⟨_, _, 1, q_nx T E q, (n : Int) + 1, rfl, rfl, R'.xy, fr'.tr l_fr.xy, X_t_3, y_t_24, by omega, hx.2.1⟩
    · have sy : y_t μ' (μ' 0 23) f = μ' := by unfold y_t; rw [zUp_self rfl, zUp_self u24]
      rw [e1, zC_I, w0, if_pos rfl, e2, zC_V, zLet_eq, L_Model_acts_w2_11]
      rw [← sy, y_moreF f0 (by omega), zC_I, w0, if_pos rfl, sy]
      exact Or.inr ⟨κ', μ', 0, f, (n : Int) + 1, rfl, rfl, R', fr', v3, u24, f0, f1⟩
theorem l_readActs (hT : q_T T E) (c1 : Int) (Kr : Int → ZMem → Option ZRes) (kT : k_T 1 T E κ) (yT : y_T T E μ) (R : z_rest m dl a κ μ) (hE0 : 0 ≤ E) : z_ro m dl a E κ μ (F_Ledger_readActs (X_t 1 κ 0 (-1))) Kr (L_Model_acts_w2_11 c1 Kr zN 0 (y_t μ 0 (-1))) 0 := by
  have w0 : w32 0 = 0 := w32_of (by decide) (by decide)
  have w1 : w32 1 = 1 := w32_of (by decide) (by decide)
  have hx := q_nx_in (p := 0) hT (by decide) hE0
  have hxx := q_nx_nx (p := 0) hT (by decide) hE0
  obtain ⟨fr, hfr⟩ : ∃ i, zN = i + 1 := ⟨zN - 1, by have := zN_gt (m := 1) (by decide); omega⟩
  have hbig : 500 < fr := by have := zN_gt (m := 501) (by decide); omega
  unfold F_Ledger_readActs
  rw [X_through x_pl1 hT kT (by decide) hE0, hfr, L_Model_acts_w2_11, y_more0 hT yT (by decide) hE0, zC_I]
  by_cases g : q_nx T E 0 = E
  · rw [if_pos g, if_pos g, w1, w0, if_neg (by decide), if_pos rfl]
    exact Or.inl ⟨_, _, 0, rfl, rfl, R.xy, l_fr.xy, X_t_3, y_t_24⟩
  · rw [if_neg g, if_neg g, w1, w0, if_pos rfl, if_neg (by decide)]
    have := l_acts hT c1 Kr 13 0 a (fr + 1) fr κ μ (q_nx T E 0) (q_nx T E 0) rfl (by omega) (by omega) kT yT R (by omega) hx.2.1 (by omega) hx.2.1 rfl
    exact this
end TO
