/-! ===== the fund's text, all of it ===== -/
def kFd (μ18 : ZMem) : Option ZRes := if w32 (μ18 0 28) = 0 then (zC (F_Model_wrong (μ18 0 22) μ18) (zkV (fun μ19 => J_Model_fund_90 μ19)) zX0) else (J_Model_fund_90 μ18)
def kFe (μ20 : ZMem) : Option ZRes := zCm [4, 5] μ20 (F_Text_isThrough  (zVw [4, 5] μ20)) (zkI (fun x22 μ21 => if w32 x22 = 0 then (zCm [4, 5] μ21 (F_Text_takeSemicolon  (zVw [4, 5] μ21)) (zkI (fun x24 μ23 => zCm [4, 5] μ23 (F_Text_refuseNext  (zVw [4, 5] μ23)) (zkI (fun x26 μ25 => if x26 = 0 ∨ x26 = 1 then some (.inr (some (zI x26)), μ25) else none)) zX0)) zX0) else (if 0 < w32 (μ21 0 3) then (J_Fund_readFrom_112 μ21) else (zCm [4, 5] μ21 (F_Text_refuseNext  (zVw [4, 5] μ21)) (zkI (fun x28 μ27 => if w32 x28 = 0 then (some (.inr (some (zI 0)), μ27)) else (J_Fund_readFrom_112 μ27))) zX0)))) zX0
def g_R (E : Int) (φ μ : ZMem) (Rc Rm : Option ZRes) : Prop :=
  (∃ φ' μ' m dl td, Rc = some (.inr (some (zI 1)), φ') ∧ Rm = J_Model_fund_90 μ' ∧ g_D m dl td φ' μ' ∧ 0 < m ∧ g_fr φ φ' μ μ' ∧ φ' 4 3 = -1 ∧ μ' 0 24 = -1) ∨
  (∃ φ' μ' f, Rc = some (.inr (some (zI 0)), φ') ∧ Rm = J_Model_fund_90 μ' ∧ g_fr φ φ' μ μ' ∧ φ' 4 3 = f ∧ μ' 0 24 = f ∧ 0 ≤ f ∧ f ≤ E)
section UD
variable {m dl : Nat} {T : Int → Int} {E p p' w f x v td : Int} {φ μ ν : ZMem}
theorem g_fr.tr {φ1 φ2 μ1 μ2 : ZMem} (h1 : g_fr φ φ1 μ μ1) (h2 : g_fr φ1 φ2 μ1 μ2) : g_fr φ φ2 μ μ2 := ⟨⟨h2.1.1.trans h1.1.1, fun k a b => (h2.1.2 k a b).trans (h1.1.2 k a b)⟩, fun c a b d e f => (h2.2.1 c a b d e f).trans (h1.2.1 c a b d e f), fun k a b d e f => (h2.2.2 k a b d e f).trans (h1.2.2 k a b d e f)⟩
theorem g_fr.kT {φ' μ' : ZMem} (h : g_fr φ φ' μ μ') (k : k_T 4 T E φ) : k_T 4 T E φ' := ⟨(h.1.2 1 (by decide) (by decide)).trans k.1, fun i i0 i1 => by show φ' 5 i = T i; rw [h.1.1]; exact k.2 i i0 i1⟩
theorem g_fr.yT {φ' μ' : ZMem} (h : g_fr φ φ' μ μ') (k : y_T T E μ) : y_T T E μ' := ⟨(h.2.2 22 (by decide) (by decide) (by decide) (by decide) (by decide)).trans k.1, fun i i0 i1 => by rw [h.2.1 15 (by decide) (by decide) (by decide) (by decide) (by decide)]; exact k.2 i i0 i1⟩
theorem g_R.tr {φ1 μ1 : ZMem} {Rc Rm : Option ZRes} (h1 : g_fr φ φ1 μ μ1) (h : g_R E φ1 μ1 Rc Rm) : g_R E φ μ Rc Rm := by
  rcases h with ⟨φ', μ', m, dl, td, a1, a2, a3, a4, a5, a6⟩ | ⟨φ', μ', f, a1, a2, a3, a4⟩
  · exact Or.inl ⟨φ', μ', m, dl, td, a1, a2, a3, a4, h1.tr a5, a6⟩
  · exact Or.inr ⟨φ', μ', f, a1, a2, h1.tr a3, a4⟩
theorem g_R.no {Rc Rm : Option ZRes} (e1 : Rc = some (.inr (some (zI 0)), X_t 4 φ p f)) (e2 : Rm = J_Model_fund_90 (y_t μ p' f)) (f0 : 0 ≤ f) (f1 : f ≤ E) : g_R E φ μ Rc Rm := Or.inr ⟨_, _, f, e1, e2, g_fr.xy, X_t_3, y_t_24, f0, f1⟩
theorem kFd_F (f0 : 0 ≤ f) (f1 : f ≤ 400) : kFd (y_t μ p f) = J_Model_fund_90 (y_t μ p f) := by
  unfold kFd
  rw [y_wrongF _ f0 f1, zC_V]
  split
  · rfl
  · rfl
theorem kFd_Y (D : g_D m dl td φ μ) (hm : 0 < m) : kFd (y_t μ p (-1)) = J_Model_fund_90 (y_t μ p (-1)) := by
  have y28 := D.2.1.1
  have h6 := D.2.2.2.1.1
  unfold kFd
  rw [y_t_0 (show (28 : Int) ≠ 23 by decide) (by decide), y28, w32_of (by omega) (by omega), if_neg (by omega)]
theorem kFd_0 (D : g_D m dl td φ μ) (hm : m = 0) (yT : y_T T E μ) : kFd (y_t μ p (-1)) = J_Model_fund_90 (y_t μ p E) := by
  have y28 := D.2.1.1
  unfold kFd
  rw [y_t_0 (show (28 : Int) ≠ 23 by decide) (by decide), y28, w32_of (by omega) (by omega), if_pos (by omega), y_t_0 (show (22 : Int) ≠ 23 by decide) (by decide), yT.1, y_wrongY, zC_V]
theorem g_loop (hT : q_T T E) : ∀ (k n : Nat) (fc fr : Nat) (m dl : Nat) (td : Int) (φ μ : ZMem) (p p' : Int), n + k = 14 → 1 ≤ n → k < fc → k + 1 < fr → k_T 4 T E φ → y_T T E μ → g_D m dl td φ μ → 0 ≤ p → p ≤ E → 0 ≤ p' → p' ≤ E → q_nx T E p = q_nx T E p' →
    g_R E φ μ (L_Fund_readFrom_30 kFe fc (n : Int) (X_t 4 φ p (-1))) (zC (F_Model_comesMore (n : Int) 14 (y_t μ p' (-1))) (zkI (fun x17 μ16 => L_Model_fund_44 kFd fr (n : Int) x17 μ16)) zX0)
  | k, n, fc, fr, m, dl, td, φ, μ, p, p', hk, hn1, hfc, hfr, kT, yT, D, p0, p1, p0', p1', hn => by
    obtain ⟨fc, rfl⟩ : ∃ i, fc = i + 1 := ⟨fc - 1, by omega⟩
    obtain ⟨fr, rfl⟩ : ∃ i, fr = i + 1 := ⟨fr - 1, by omega⟩
    have hE := hT.1
    have hx := q_nx_in hT p0 p1
    have hxx := q_nx_nx hT p0 p1
    have h6 := D.2.2.2.1.1
    have c3 := D.1.1
    have w0 : w32 0 = 0 := w32_of (by decide) (by decide)
    have w1 : w32 1 = 1 := w32_of (by decide) (by decide)
    have wn : w32 (n : Int) = n := w32_of (by omega) (by omega)
    have z04 : (0 : Nat) ≠ 4 := by decide
    rw [L_Fund_readFrom_30, w32_of (a := 14) (by decide) (by decide), wn]
    by_cases g14 : n = 14
    · subst g14
      rw [if_pos (by decide)]
      unfold kFe
      rw [X_through x_pl4 hT kT p0 p1]
      by_cases g : q_nx T E p = E
      · rw [if_pos g, w1, if_neg (show ¬ (1 : Int) = 0 by decide), X_t_c z04, c3, w32_of (a := (m : Int)) (by omega) (by omega), y_moreE hT yT p0' p1' (by decide) (by decide) (by rw [← hn]; exact g), zC_I, L_Model_fund_44, w0, if_pos rfl]
        by_cases gm : 0 < m
        · rw [if_pos (by omega), kFd_Y D gm]
          exact Or.inl ⟨_, _, m, dl, td, rfl, rfl, D.xy, gm, g_fr.xy, X_t_3, y_t_24⟩
        · rw [if_neg (by omega), X_refuseNext x_pl4 hT kT (show 0 ≤ q_nx T E p by omega) hx.2.1, w0, if_pos rfl, hxx, kFd_0 D (by omega) yT, g]
          exact g_R.no rfl rfl hE.1 (Int.le_refl _)
      · rw [if_neg g, w0, if_pos rfl]
        by_cases gs : q_sm1 T E (q_nx T E p)
        · have gs1 := gs.1
          have hx2 := q_nx_in (p := q_nx T E p + 1) hT (by omega) (by omega)
          rw [X_semiY x_pl4 hT kT (show 0 ≤ q_nx T E p by omega) hx.2.1 (by rw [hxx]; exact gs), hxx, X_refuseNext x_pl4 hT kT (show 0 ≤ q_nx T E p + 1 by omega) (by omega), if_pos (Or.inl rfl), y_moreS hT yT p0' p1' (by decide) (by decide) (by rw [← hn]; exact gs), if_pos (by decide), zC_I, L_Model_fund_44, w0, if_pos rfl, ← hn, kFd_F (by omega) (by omega)]
          exact g_R.no rfl rfl (by omega) hx2.2.1
        · rw [X_semiN x_pl4 hT kT (show 0 ≤ q_nx T E p by omega) hx.2.1 (by rw [hxx]; exact gs), hxx, X_refuseNext x_pl4 hT kT (show 0 ≤ q_nx T E p by omega) hx.2.1, hxx, if_pos (Or.inl rfl), y_moreN hT yT p0' p1' (by decide) (by decide) (by rw [← hn]; exact g) (by rw [← hn]; exact gs), zC_I, L_Model_fund_44, w0, if_pos rfl, ← hn, kFd_F (by omega) (by omega)]
          exact g_R.no rfl rfl (by omega) hx.2.1
    · rw [if_neg (show ¬ (14 : Int) ≤ n by omega), X_through x_pl4 hT kT p0 p1]
      by_cases g : q_nx T E p = E
      · rw [if_pos g, w1, if_neg (show ¬ (1 : Int) = 0 by decide), X_t_c z04, c3, w32_of (a := (m : Int)) (by omega) (by omega), y_moreE hT yT p0' p1' (by omega) (by omega) (by rw [← hn]; exact g), zC_I, L_Model_fund_44, w0, if_pos rfl]
        by_cases gm : 0 < m
        · rw [if_pos (by omega), kFd_Y D gm]
          exact Or.inl ⟨_, _, m, dl, td, rfl, rfl, D.xy, gm, g_fr.xy, X_t_3, y_t_24⟩
        · rw [if_neg (by omega), X_refuseNext x_pl4 hT kT (show 0 ≤ q_nx T E p by omega) hx.2.1, w0, if_pos rfl, hxx, kFd_0 D (by omega) yT, g]
          exact g_R.no rfl rfl hE.1 (Int.le_refl _)
      · rw [if_neg g, w0, if_pos rfl]
        by_cases gs : q_sm1 T E (q_nx T E p)
        · have gs1 := gs.1
          rw [X_semiY x_pl4 hT kT (show 0 ≤ q_nx T E p by omega) hx.2.1 (by rw [hxx]; exact gs), hxx, w1, if_neg (show ¬ (1 : Int) = 0 by decide), y_moreS hT yT p0' p1' (by omega) (by omega) (by rw [← hn]; exact gs), if_neg (show ¬ (n : Int) = 14 by omega), zC_I, L_Model_fund_44, w1, if_neg (show ¬ (1 : Int) = 0 by decide), wn, if_neg (show ¬ (n : Int) = 0 by omega), ← hn]
          rcases g_line (p := q_nx T E p + 1) (p' := q_nx T E p + 1) hT kT yT D (by omega) (by omega) (by omega) (by omega) rfl with ⟨φ', μ', a1, a2, ⟨m', dl', td', D'⟩, fr', v3, u24, vp, up, hn'⟩ | ⟨φ', μ', f, a1, a2, fr', v3, u24, f0, f1⟩
          · have sx : X_t 4 φ' (φ' 4 2) (-1) = φ' := X_t_self rfl v3
            have sy : y_t μ' (μ' 0 23) (-1) = μ' := by unfold y_t; rw [zUp_self rfl, zUp_self u24]
            rw [a1, a2, zC_I, w1, if_neg (show ¬ (1 : Int) = 0 by decide), zLet_eq, zC_V, zLet_eq]
            match k, hk, hfc, hfr with
            | 0, hk, hfc, hfr => exact absurd hk (by omega)
            | k + 1, hk, hfc, hfr =>
            have := g_loop hT k (n + 1) fc fr m' dl' td' φ' μ' (φ' 4 2) (μ' 0 23) (by omega) (by omega) (by omega) (by omega) (fr'.kT kT) (fr'.yT yT) D' vp.1 vp.2 up.1 up.2 hn'
            rw [sx, sy, show ((n + 1 : Nat) : Int) = (n : Int) + 1 by omega] at this
            exact this.tr fr'
          · have sy : y_t μ' (μ' 0 23) f = μ' := by unfold y_t; rw [zUp_self rfl, zUp_self u24]
            obtain ⟨fr, rfl⟩ : ∃ i, fr = i + 1 := ⟨fr - 1, by omega⟩
            rw [a1, a2, zC_I, w0, if_pos rfl, zC_V, zLet_eq, ← sy, y_moreF f0 (by omega), zC_I, L_Model_fund_44, w0, if_pos rfl, kFd_F f0 (by omega), sy]
            exact Or.inr ⟨φ', μ', f, rfl, rfl, fr', v3, u24, f0, f1⟩
        · rw [X_semiN x_pl4 hT kT (show 0 ≤ q_nx T E p by omega) hx.2.1 (by rw [hxx]; exact gs), hxx, w0, if_pos rfl, X_refuseNext x_pl4 hT kT (show 0 ≤ q_nx T E p by omega) hx.2.1, hxx, if_pos (Or.inl rfl), y_moreN hT yT p0' p1' (by omega) (by omega) (by rw [← hn]; exact g) (by rw [← hn]; exact gs), zC_I, L_Model_fund_44, w0, if_pos rfl, ← hn, kFd_F (by omega) (by omega)]
          exact g_R.no rfl rfl (by omega) hx.2.1
end UD
