/-! ===== the fund's first line: its terms ===== -/
abbrev plM : List Nat := [0, 1, 2, 3, 4, 5, 6, 7, 8, 9, 10, 11, 12, 13, 14, 15, 16, 17, 18, 19, 20, 21, 22, 23, 24]
theorem x_pl4 : x_pl 4 [4, 5] := ⟨by decide, rfl, rfl⟩
theorem zVw_M (μ : ZMem) : zVw plM μ = μ := by
  funext k
  show μ (zRho plM k) = μ k
  have e : zRho plM k = k := by
    rcases Nat.lt_or_ge k 25 with h | h
    · have : ∀ k : Nat, k < 25 → zRho plM k = k := by decide
      exact this k h
    · unfold zRho
      rw [List.getD_eq_getElem?_getD, List.getElem?_eq_none (by show 25 ≤ k; exact h)]
      rfl
  rw [e]
theorem M_mg (μ : ZMem) (p f q g : Int) : zMg plM (y_t μ p f) (y_t μ q g) = y_t μ q g := by
  have e : y_t μ q g = y_t (y_t μ p f) q g := by
    unfold y_t
    rw [zUp_swap (show (24 : Int) ≠ 23 by decide), zUp_twice, zUp_twice]
  have e2 : zMg plM (y_t μ p f) (y_t μ p f) = y_t μ p f := by
    have := zMg_vw plM (y_t μ p f)
    rw [zVw_M] at this
    exact this
  have u : y_t (y_t μ p f) q g = zUp (zUp (y_t μ p f) 0 23 q) 0 24 g := rfl
  rw [e, u, zMg_upg (pl := plM) (c := 0) (by decide), zMg_upg (pl := plM) (c := 0) (by decide), e2]
  rfl
theorem M_cm {μ : ZMem} {p f q g v : Int} {F : ZMem → Option ZRes} (hF : F (y_t μ p f) = some (.inr (some (zI v)), y_t μ q g)) (K : Int → ZMem → Option ZRes) (Z : String → ZMem → Option ZRes) : zCm plM (y_t μ p f) (F (zVw plM (y_t μ p f))) (zkI K) Z = K v (y_t μ q g) := by
  rw [zVw_M, hF, zCm_I, M_mg]
theorem y_t_u {μ : ZMem} {p f i v : Int} {c : Nat} (h : c ≠ 0) : zUp (y_t μ p f) c i v = y_t (zUp μ c i v) p f := by
  funext c' i'
  unfold y_t zUp
  by_cases h1 : c' = c ∧ i' = i
  · rw [if_pos h1, if_neg (by omega), if_neg (by omega), if_pos h1]
  · rw [if_neg h1, if_neg h1]
theorem X_t_u {t : Nat} {μ : ZMem} {p f i v : Int} {c : Nat} (h : c ≠ t) : zUp (X_t t μ p f) c i v = X_t t (zUp μ c i v) p f := by
  funext c' i'
  unfold X_t zUp
  by_cases h1 : c' = c ∧ i' = i
  · rw [if_pos h1, if_neg (by omega), if_neg (by omega), if_pos h1]
  · rw [if_neg h1, if_neg h1]
def g_fr (φ φ' μ μ' : ZMem) : Prop := (φ' 5 = φ 5 ∧ ∀ k, k ≠ 2 → k ≠ 3 → φ' 4 k = φ 4 k) ∧ (∀ c, c ≠ 0 → c ≠ 16 → c ≠ 17 → c ≠ 18 → c ≠ 25 → μ' c = μ c) ∧ (∀ k, k ≠ 23 → k ≠ 24 → k ≠ 28 → k ≠ 29 → k ≠ 30 → μ' 0 k = μ 0 k)
def g_o (T : Int → Int) (E : Int) (φ μ : ZMem) (P : ZMem → ZMem → Prop) (Rc Rm : Option ZRes) : Prop :=
  (∃ φ' μ', Rc = some (.inr (some (zI 1)), φ') ∧ Rm = some (.inr none, μ') ∧ P φ' μ' ∧ g_fr φ φ' μ μ' ∧ φ' 4 3 = -1 ∧ μ' 0 24 = -1 ∧ (0 ≤ φ' 4 2 ∧ φ' 4 2 ≤ E) ∧ (0 ≤ μ' 0 23 ∧ μ' 0 23 ≤ E) ∧ q_nx T E (φ' 4 2) = q_nx T E (μ' 0 23)) ∨
  (∃ φ' μ' f, Rc = some (.inr (some (zI 0)), φ') ∧ Rm = some (.inr none, μ') ∧ g_fr φ φ' μ μ' ∧ φ' 4 3 = f ∧ μ' 0 24 = f ∧ 0 ≤ f ∧ f ≤ E)
def g_t (k : Nat) (φ μ : ZMem) : Prop := (∀ i : Nat, i < k → φ 1 i = μ 16 i ∧ 0 ≤ μ 16 i ∧ μ 16 i ≤ zTops.getD i 0) ∧ (∀ i : Nat, k ≤ i → i < 7 → φ 1 i = 0)
def g_P (φ μ φ' μ' : ZMem) : Prop := g_t 7 φ' μ' ∧ (φ' 0 = φ 0 ∧ φ' 2 = φ 2 ∧ φ' 3 = φ 3) ∧ (μ' 17 = μ 17 ∧ μ' 18 = μ 18) ∧ (∀ k, k = 28 ∨ k = 29 ∨ k = 30 → μ' 0 k = μ 0 k)
section UA
variable {T : Int → Int} {E p p' w f x v : Int} {φ μ φ1 μ1 : ZMem} {k : Nat}
theorem g_fr.up (h1 : φ1 5 = φ 5 ∧ φ1 4 = φ 4) (h2 : ∀ c, c ≠ 16 → μ1 c = μ c) {φ' μ' : ZMem} (h : g_fr φ1 φ' μ1 μ') : g_fr φ φ' μ μ' := ⟨⟨h.1.1.trans h1.1, fun k a b => by rw [h.1.2 k a b, h1.2]⟩, fun c c0 c16 c17 c18 c25 => by rw [h.2.1 c c0 c16 c17 c18 c25, h2 c c16], fun k a b c d e => by rw [h.2.2 k a b c d e, h2 0 (by decide)]⟩
theorem g_fr.xy : g_fr φ (X_t 4 φ p w) μ (y_t μ p' f) := ⟨⟨X_t_c (by decide), fun k a b => by unfold X_t; rw [zUp_at, q_up_ne b, zUp_at, q_up_ne a]⟩, fun c c0 _ _ _ _ => y_t_c c0, fun k a b _ _ _ => y_t_0 a b⟩
theorem g_o.up {P Q : ZMem → ZMem → Prop} {Rc Rm : Option ZRes} (h1 : φ1 5 = φ 5 ∧ φ1 4 = φ 4) (h2 : ∀ c, c ≠ 16 → μ1 c = μ c) (hP : ∀ a b, P a b → Q a b) (h : g_o T E φ1 μ1 P Rc Rm) : g_o T E φ μ Q Rc Rm := by
  rcases h with ⟨φ', μ', a1, a2, a3, a4, a5⟩ | ⟨φ', μ', f, a1, a2, a4, a5⟩
  · exact Or.inl ⟨φ', μ', a1, a2, hP _ _ a3, a4.up h1 h2, a5⟩
  · exact Or.inr ⟨φ', μ', f, a1, a2, a4.up h1 h2, a5⟩
/-- one term more: written, or left at 0 -/
theorem g_t.skip (h : g_t k φ μ) (hk : k < 7) : g_t (k + 1) φ (zUp μ 16 k 0) := by
  refine ⟨fun i hi => ?_, fun i h0 h1 => h.2 i (by omega) h1⟩
  rw [zUp_at]
  by_cases e : i = k
  · subst e
    rw [q_up_at]
    have := zTop_in hk
    exact ⟨h.2 i (Nat.le_refl _) hk, by decide, this.1⟩
  · rw [q_up_ne (by omega)]
    exact h.1 i (by omega)
theorem g_t.put (h : g_t k φ μ) (hk : k < 7) (v0 : 0 ≤ v) (v1 : v ≤ zTops.getD k 0) : g_t (k + 1) (zUp φ 1 k v) (zUp (zUp μ 16 k 0) 16 k v) := by
  refine ⟨fun i hi => ?_, fun i h0 h1 => ?_⟩
  · rw [zUp_twice, zUp_at, zUp_at]
    by_cases e : i = k
    · subst e
      rw [q_up_at, q_up_at]
      exact ⟨rfl, v0, v1⟩
    · rw [q_up_ne (by omega), q_up_ne (by omega)]
      exact h.1 i (by omega)
  · rw [zUp_at, q_up_ne (by omega)]
    exact h.2 i (by omega) h1
theorem g_P.up {φ' μ' : ZMem} (h : g_P φ1 μ1 φ' μ') (h1 : φ1 0 = φ 0 ∧ φ1 2 = φ 2 ∧ φ1 3 = φ 3) (h2 : ∀ c, c ≠ 16 → μ1 c = μ c) : g_P φ μ φ' μ' := ⟨h.1, ⟨h.2.1.1.trans h1.1, h.2.1.2.1.trans h1.2.1, h.2.1.2.2.trans h1.2.2⟩, ⟨h.2.2.1.1.trans (h2 17 (by decide)), h.2.2.1.2.trans (h2 18 (by decide))⟩, fun k hk => by rw [h.2.2.2 k hk, h2 0 (by decide)]⟩
theorem k_T.u (h : k_T 4 T E φ) : k_T 4 T E (zUp φ 1 x v) := ⟨by rw [zUp_ne (by decide)]; exact h.1, fun i i0 i1 => by rw [zUp_ne (by decide)]; exact h.2 i i0 i1⟩
theorem y_T.u (h : y_T T E μ) : y_T T E (zUp μ 16 x v) := ⟨by rw [zUp_ne (by decide)]; exact h.1, fun i i0 i1 => by rw [zUp_ne (by decide)]; exact h.2 i i0 i1⟩
theorem g_F7 : J_Model_termLine_51_7 (y_t μ p f) = some (.inr none, y_t μ p f) := rfl
theorem g_F6 (hT : q_T T E) (yT : y_T T E μ) (p0 : 0 ≤ p) (p1 : p ≤ E) (f0 : 0 ≤ f) (f1 : f ≤ 400) : ∃ μ' q, J_Model_termLine_51_6 (y_t μ p f) = some (.inr none, y_t μ' q f) ∧ (∀ c, c ≠ 16 → μ' c = μ c) := by
  have hx := q_nx_in hT p0 p1
  refine ⟨zUp μ 16 6 0, q_nx T E p, ?_, fun c hc => zUp_ne hc⟩
  unfold J_Model_termLine_51_6 J_Model_termLine_103_6
  rw [zWr_ok (by decide) (by decide) (by decide), y_t_u (by decide), M_cm (y_hasF hT yT.u p0 p1 f0 f1), w32_of (by decide) (by decide), if_pos rfl]
  rfl
theorem g_F5 (hT : q_T T E) (yT : y_T T E μ) (p0 : 0 ≤ p) (p1 : p ≤ E) (f0 : 0 ≤ f) (f1 : f ≤ 400) : ∃ μ' q, J_Model_termLine_51_5 (y_t μ p f) = some (.inr none, y_t μ' q f) ∧ (∀ c, c ≠ 16 → μ' c = μ c) := by
  have hx := q_nx_in hT p0 p1
  obtain ⟨μ', q, e, o'⟩ := g_F6 (μ := zUp μ 16 5 0) (p := q_nx T E p) (f := f) hT yT.u (by omega) hx.2.1 f0 f1
  refine ⟨μ', q, ?_, fun c hc => by rw [o' c hc, zUp_ne hc]⟩
  unfold J_Model_termLine_51_5 J_Model_termLine_103_5
  rw [zWr_ok (by decide) (by decide) (by decide), y_t_u (by decide), M_cm (y_hasF hT yT.u p0 p1 f0 f1), w32_of (by decide) (by decide), if_pos rfl]
  exact e
theorem g_F4 (hT : q_T T E) (yT : y_T T E μ) (p0 : 0 ≤ p) (p1 : p ≤ E) (f0 : 0 ≤ f) (f1 : f ≤ 400) : ∃ μ' q, J_Model_termLine_51_4 (y_t μ p f) = some (.inr none, y_t μ' q f) ∧ (∀ c, c ≠ 16 → μ' c = μ c) := by
  have hx := q_nx_in hT p0 p1
  obtain ⟨μ', q, e, o'⟩ := g_F5 (μ := zUp μ 16 4 0) (p := q_nx T E p) (f := f) hT yT.u (by omega) hx.2.1 f0 f1
  refine ⟨μ', q, ?_, fun c hc => by rw [o' c hc, zUp_ne hc]⟩
  unfold J_Model_termLine_51_4 J_Model_termLine_103_4
  rw [zWr_ok (by decide) (by decide) (by decide), y_t_u (by decide), M_cm (y_hasF hT yT.u p0 p1 f0 f1), w32_of (by decide) (by decide), if_pos rfl]
  exact e
theorem g_F3 (hT : q_T T E) (yT : y_T T E μ) (p0 : 0 ≤ p) (p1 : p ≤ E) (f0 : 0 ≤ f) (f1 : f ≤ 400) : ∃ μ' q, J_Model_termLine_51_3 (y_t μ p f) = some (.inr none, y_t μ' q f) ∧ (∀ c, c ≠ 16 → μ' c = μ c) := by
  have hx := q_nx_in hT p0 p1
  obtain ⟨μ', q, e, o'⟩ := g_F4 (μ := zUp μ 16 3 0) (p := q_nx T E p) (f := f) hT yT.u (by omega) hx.2.1 f0 f1
  refine ⟨μ', q, ?_, fun c hc => by rw [o' c hc, zUp_ne hc]⟩
  unfold J_Model_termLine_51_3 J_Model_termLine_103_3
  rw [zWr_ok (by decide) (by decide) (by decide), y_t_u (by decide), M_cm (y_hasF hT yT.u p0 p1 f0 f1), w32_of (by decide) (by decide), if_pos rfl]
  exact e
theorem g_F2 (hT : q_T T E) (yT : y_T T E μ) (p0 : 0 ≤ p) (p1 : p ≤ E) (f0 : 0 ≤ f) (f1 : f ≤ 400) : ∃ μ' q, J_Model_termLine_51_2 (y_t μ p f) = some (.inr none, y_t μ' q f) ∧ (∀ c, c ≠ 16 → μ' c = μ c) := by
  have hx := q_nx_in hT p0 p1
  obtain ⟨μ', q, e, o'⟩ := g_F3 (μ := zUp μ 16 2 0) (p := q_nx T E p) (f := f) hT yT.u (by omega) hx.2.1 f0 f1
  refine ⟨μ', q, ?_, fun c hc => by rw [o' c hc, zUp_ne hc]⟩
  unfold J_Model_termLine_51_2 J_Model_termLine_103_2
  rw [zWr_ok (by decide) (by decide) (by decide), y_t_u (by decide), M_cm (y_hasF hT yT.u p0 p1 f0 f1), w32_of (by decide) (by decide), if_pos rfl]
  exact e
theorem g_F1 (hT : q_T T E) (yT : y_T T E μ) (p0 : 0 ≤ p) (p1 : p ≤ E) (f0 : 0 ≤ f) (f1 : f ≤ 400) : ∃ μ' q, J_Model_termLine_51_1 (y_t μ p f) = some (.inr none, y_t μ' q f) ∧ (∀ c, c ≠ 16 → μ' c = μ c) := by
  have hx := q_nx_in hT p0 p1
  obtain ⟨μ', q, e, o'⟩ := g_F2 (μ := zUp μ 16 1 0) (p := q_nx T E p) (f := f) hT yT.u (by omega) hx.2.1 f0 f1
  refine ⟨μ', q, ?_, fun c hc => by rw [o' c hc, zUp_ne hc]⟩
  unfold J_Model_termLine_51_1 J_Model_termLine_103_1
  rw [zWr_ok (by decide) (by decide) (by decide), y_t_u (by decide), M_cm (y_hasF hT yT.u p0 p1 f0 f1), w32_of (by decide) (by decide), if_pos rfl]
  exact e
theorem g_F0 (hT : q_T T E) (yT : y_T T E μ) (p0 : 0 ≤ p) (p1 : p ≤ E) (f0 : 0 ≤ f) (f1 : f ≤ 400) : ∃ μ' q, J_Model_termLine_51 (y_t μ p f) = some (.inr none, y_t μ' q f) ∧ (∀ c, c ≠ 16 → μ' c = μ c) := by
  have hx := q_nx_in hT p0 p1
  obtain ⟨μ', q, e, o'⟩ := g_F1 (μ := zUp μ 16 0 0) (p := q_nx T E p) (f := f) hT yT.u (by omega) hx.2.1 f0 f1
  refine ⟨μ', q, ?_, fun c hc => by rw [o' c hc, zUp_ne hc]⟩
  unfold J_Model_termLine_51 J_Model_termLine_103
  rw [zWr_ok (by decide) (by decide) (by decide), y_t_u (by decide), M_cm (y_hasF hT yT.u p0 p1 f0 f1), w32_of (by decide) (by decide), if_pos rfl]
  exact e
theorem g_T7 (h : g_t 7 φ μ) (p0 : 0 ≤ p) (p1 : p ≤ E) (p0' : 0 ≤ p') (p1' : p' ≤ E) (hn : q_nx T E p = q_nx T E p') : g_o T E φ μ (g_P φ μ) (J_Fund_readTerms_2_7 (X_t 4 φ p (-1))) (J_Model_termLine_51_7 (y_t μ p' (-1))) := by
  refine Or.inl ⟨_, _, rfl, rfl, ⟨⟨fun i hi => ?_, fun i h0 h1 => by omega⟩, ⟨X_t_c (by decide), X_t_c (by decide), X_t_c (by decide)⟩, ⟨y_t_c (by decide), y_t_c (by decide)⟩, fun k hk => y_t_0 (by omega) (by omega)⟩, g_fr.xy, X_t_3, y_t_24, ?_, ?_, ?_⟩
  · rw [X_t_c (by decide), y_t_c (by decide)]; exact h.1 i hi
  · rw [X_t_2]; exact ⟨p0, p1⟩
  · rw [y_t_23]; exact ⟨p0', p1'⟩
  · rw [X_t_2, y_t_23]; exact hn
theorem g_T6 (hT : q_T T E) (kT : k_T 4 T E φ) (yT : y_T T E μ) (hM : m_top μ) (h : g_t 6 φ μ) (p0 : 0 ≤ p) (p1 : p ≤ E) (p0' : 0 ≤ p') (p1' : p' ≤ E) (hn : q_nx T E p = q_nx T E p') : g_o T E φ μ (g_P φ μ) (J_Fund_readTerms_2_6 (X_t 4 φ p (-1))) (J_Model_termLine_51_6 (y_t μ p' (-1))) := by
  have hE := hT.1
  have hx := q_nx_in hT p0 p1
  have w0 : w32 0 = 0 := w32_of (by decide) (by decide)
  have w1 : w32 1 = 1 := w32_of (by decide) (by decide)
  have hM1 : ∀ x v, m_top (zUp μ 16 x v) := fun x v i hi => by rw [zUp_ne (by decide)]; exact hM i hi
  unfold J_Fund_readTerms_2_6 J_Model_termLine_51_6
  rw [zWr_ok (by decide) (by decide) (by decide), y_t_u (by decide)]
  show g_o T E φ μ (g_P φ μ) (zC (some (.inr (some (zR (some 1000006))), X_t 4 φ p (-1))) _ _) _
  rw [zC_Rc]
  by_cases g : q_wd T E 6 (q_nx T E p)
  · have hl := zSl_in (j := 6) (by decide)
    have gl := g.1
    rw [X_wordY x_pl4 hT kT p0 p1 (by decide) g, M_cm (y_hasY hT yT.u (by decide) p0' p1' (by rw [← hn]; exact g)), w1, if_neg (show ¬ (1 : Int) = 0 by decide), if_neg (show ¬ (1 : Int) = 0 by decide), ← hn]
    have tt := zTop_in (k := 6) (by decide)
    have hx2 := q_nx_in (p := q_nx T E p + zSl 6) hT (by omega) gl
    have t1 : y_t (zUp μ 16 6 0) (q_nx T E p + zSl 6) (-1) 1 6 = zTops.getD 6 0 := by rw [y_t_c (by decide)]; exact hM1 _ _ 6 (by decide)
    rw [show zTop 6 = fun K => K (zTops.getD 6 0) from funext (fun K => zTop_ok (k := 6) (by decide)), zRd_ok (by decide) (by decide) (by decide), t1]
    show g_o T E φ μ (g_P φ μ) (zCm [4, 5] (X_t 4 φ (q_nx T E p + zSl 6) (-1)) (F_Text_takeNumber 0 (zTops.getD 6 0) (zVw [4, 5] (X_t 4 φ (q_nx T E p + zSl 6) (-1)))) _ _) _
    by_cases gn : q_no T E 0 (zTops.getD 6 0) (q_nx T E (q_nx T E p + zSl 6))
    · have d := q_ds_in (x := q_nx T E (q_nx T E p + zSl 6)) hT (by omega) hx2.2.1
      rw [X_numY x_pl4 hT kT (by omega) gl (by decide) (by decide) (by omega) (by omega) gn, M_cm (y_numY hT yT.u (by omega) gl (by decide) (by decide) (by omega) (by omega) gn)]
      unfold J_Fund_readTerms_43 J_Model_termLine_102
      rw [zWr_ok (by decide) (by decide) (by decide), X_t_u (by decide), X_rightY x_pl4, w1, if_neg (show ¬ (1 : Int) = 0 by decide), zWr_ok (by decide) (by decide) (by decide), y_t_u (by decide)]
      unfold J_Fund_readTerms_53_6 J_Model_termLine_103_6
      exact g_o.up ⟨zUp_ne (by decide), zUp_ne (by decide)⟩ (fun c hc => by rw [zUp_ne hc, zUp_ne hc]) (fun a b q => q.up ⟨zUp_ne (by decide), zUp_ne (by decide), zUp_ne (by decide)⟩ (fun c hc => by rw [zUp_ne hc, zUp_ne hc])) (g_T7 (h.put (k := 6) (by decide) gn.2.2.1 gn.2.2.2) (by omega) d.1 (by omega) d.1 rfl)
    · obtain ⟨u, r, e, r0, r1, -, -⟩ := y_numN (lo := 0) (hi := zTops.getD 6 0) hT (yT.u (x := 6) (v := 0)) (show 0 ≤ q_nx T E p + zSl 6 by omega) gl (by decide) (by decide) (by omega) (by omega) gn
      rw [X_numN x_pl4 hT kT (by omega) gl (by decide) (by decide) (by omega) (by omega) gn, M_cm e]
      unfold J_Fund_readTerms_43 J_Model_termLine_102
      rw [zWr_ok (by decide) (by decide) (by decide), X_t_u (by decide), X_rightN x_pl4 (by omega) (by omega), w0, if_pos rfl, zWr_ok (by decide) (by decide) (by decide), y_t_u (by decide)]
      unfold J_Model_termLine_103_6
      rw [g_F7]
      exact Or.inr ⟨_, _, q_nx T E (q_nx T E p + zSl 6), rfl, rfl, ⟨⟨by rw [X_t_c (by decide), zUp_ne (by decide)], fun k a b => by unfold X_t; rw [zUp_at, q_up_ne b, zUp_at, q_up_ne a, zUp_ne (by decide)]⟩, fun c c0 c16 _ _ _ => by rw [y_t_c c0, zUp_ne c16, zUp_ne c16], fun k a b _ _ _ => by rw [y_t_0 a b, zUp_ne (by decide), zUp_ne (by decide)]⟩, X_t_3, y_t_24, by omega, hx2.2.1⟩
  · rw [X_wordN x_pl4 hT kT p0 p1 (by decide) g, M_cm (y_hasN hT yT.u (by decide) p0' p1' (by rw [← hn]; exact g)), w0, if_pos rfl, if_pos rfl, ← hn]
    unfold J_Fund_readTerms_53_6 J_Model_termLine_103_6
    exact g_o.up ⟨rfl, rfl⟩ (fun c hc => zUp_ne hc) (fun a b q => q.up ⟨rfl, rfl, rfl⟩ (fun c hc => zUp_ne hc)) (g_T7 (h.skip (k := 6) (by decide)) (by omega) hx.2.1 (by omega) hx.2.1 rfl)
theorem g_T5 (hT : q_T T E) (kT : k_T 4 T E φ) (yT : y_T T E μ) (hM : m_top μ) (h : g_t 5 φ μ) (p0 : 0 ≤ p) (p1 : p ≤ E) (p0' : 0 ≤ p') (p1' : p' ≤ E) (hn : q_nx T E p = q_nx T E p') : g_o T E φ μ (g_P φ μ) (J_Fund_readTerms_2_5 (X_t 4 φ p (-1))) (J_Model_termLine_51_5 (y_t μ p' (-1))) := by
  have hE := hT.1
  have hx := q_nx_in hT p0 p1
  have w0 : w32 0 = 0 := w32_of (by decide) (by decide)
  have w1 : w32 1 = 1 := w32_of (by decide) (by decide)
  have hM1 : ∀ x v, m_top (zUp μ 16 x v) := fun x v i hi => by rw [zUp_ne (by decide)]; exact hM i hi
  unfold J_Fund_readTerms_2_5 J_Model_termLine_51_5
  rw [zWr_ok (by decide) (by decide) (by decide), y_t_u (by decide)]
  show g_o T E φ μ (g_P φ μ) (zC (some (.inr (some (zR (some 1000005))), X_t 4 φ p (-1))) _ _) _
  rw [zC_Rc]
  by_cases g : q_wd T E 5 (q_nx T E p)
  · have hl := zSl_in (j := 5) (by decide)
    have gl := g.1
    rw [X_wordY x_pl4 hT kT p0 p1 (by decide) g, M_cm (y_hasY hT yT.u (by decide) p0' p1' (by rw [← hn]; exact g)), w1, if_neg (show ¬ (1 : Int) = 0 by decide), if_neg (show ¬ (1 : Int) = 0 by decide), ← hn]
    have tt := zTop_in (k := 5) (by decide)
    have hx2 := q_nx_in (p := q_nx T E p + zSl 5) hT (by omega) gl
    have t1 : y_t (zUp μ 16 5 0) (q_nx T E p + zSl 5) (-1) 1 5 = zTops.getD 5 0 := by rw [y_t_c (by decide)]; exact hM1 _ _ 5 (by decide)
    rw [show zTop 5 = fun K => K (zTops.getD 5 0) from funext (fun K => zTop_ok (k := 5) (by decide)), zRd_ok (by decide) (by decide) (by decide), t1]
    show g_o T E φ μ (g_P φ μ) (zCm [4, 5] (X_t 4 φ (q_nx T E p + zSl 5) (-1)) (F_Text_takeNumber 0 (zTops.getD 5 0) (zVw [4, 5] (X_t 4 φ (q_nx T E p + zSl 5) (-1)))) _ _) _
    by_cases gn : q_no T E 0 (zTops.getD 5 0) (q_nx T E (q_nx T E p + zSl 5))
    · have d := q_ds_in (x := q_nx T E (q_nx T E p + zSl 5)) hT (by omega) hx2.2.1
      rw [X_numY x_pl4 hT kT (by omega) gl (by decide) (by decide) (by omega) (by omega) gn, M_cm (y_numY hT yT.u (by omega) gl (by decide) (by decide) (by omega) (by omega) gn)]
      unfold J_Fund_readTerms_43_1 J_Model_termLine_102_1
      rw [zWr_ok (by decide) (by decide) (by decide), X_t_u (by decide), X_rightY x_pl4, w1, if_neg (show ¬ (1 : Int) = 0 by decide), zWr_ok (by decide) (by decide) (by decide), y_t_u (by decide)]
      unfold J_Fund_readTerms_53_5 J_Model_termLine_103_5
      exact g_o.up ⟨zUp_ne (by decide), zUp_ne (by decide)⟩ (fun c hc => by rw [zUp_ne hc, zUp_ne hc]) (fun a b q => q.up ⟨zUp_ne (by decide), zUp_ne (by decide), zUp_ne (by decide)⟩ (fun c hc => by rw [zUp_ne hc, zUp_ne hc])) (g_T6 hT kT.u yT.u.u (fun i hi => by rw [zUp_ne (by decide)]; exact hM1 _ _ i hi) (h.put (k := 5) (by decide) gn.2.2.1 gn.2.2.2) (by omega) d.1 (by omega) d.1 rfl)
    · obtain ⟨u, r, e, r0, r1, -, -⟩ := y_numN (lo := 0) (hi := zTops.getD 5 0) hT (yT.u (x := 5) (v := 0)) (show 0 ≤ q_nx T E p + zSl 5 by omega) gl (by decide) (by decide) (by omega) (by omega) gn
      rw [X_numN x_pl4 hT kT (by omega) gl (by decide) (by decide) (by omega) (by omega) gn, M_cm e]
      unfold J_Fund_readTerms_43_1 J_Model_termLine_102_1
      rw [zWr_ok (by decide) (by decide) (by decide), X_t_u (by decide), X_rightN x_pl4 (by omega) (by omega), w0, if_pos rfl, zWr_ok (by decide) (by decide) (by decide), y_t_u (by decide)]
      unfold J_Model_termLine_103_5
      obtain ⟨μ', q, e', o'⟩ := g_F6 (p := r) (f := q_nx T E (q_nx T E p + zSl 5)) hT ((yT.u (x := 5) (v := 0)).u (x := 5) (v := u)) r0 r1 (by omega) (by omega)
      rw [e']
      exact Or.inr ⟨_, _, q_nx T E (q_nx T E p + zSl 5), rfl, rfl, ⟨⟨by rw [X_t_c (by decide), zUp_ne (by decide)], fun k a b => by unfold X_t; rw [zUp_at, q_up_ne b, zUp_at, q_up_ne a, zUp_ne (by decide)]⟩, fun c c0 c16 _ _ _ => by rw [y_t_c c0, o' c c16, zUp_ne c16, zUp_ne c16], fun k a b _ _ _ => by rw [y_t_0 a b, o' 0 (by decide), zUp_ne (by decide), zUp_ne (by decide)]⟩, X_t_3, y_t_24, by omega, hx2.2.1⟩
  · rw [X_wordN x_pl4 hT kT p0 p1 (by decide) g, M_cm (y_hasN hT yT.u (by decide) p0' p1' (by rw [← hn]; exact g)), w0, if_pos rfl, if_pos rfl, ← hn]
    unfold J_Fund_readTerms_53_5 J_Model_termLine_103_5
    exact g_o.up ⟨rfl, rfl⟩ (fun c hc => zUp_ne hc) (fun a b q => q.up ⟨rfl, rfl, rfl⟩ (fun c hc => zUp_ne hc)) (g_T6 hT kT yT.u (hM1 _ _) (h.skip (k := 5) (by decide)) (by omega) hx.2.1 (by omega) hx.2.1 rfl)
theorem g_T4 (hT : q_T T E) (kT : k_T 4 T E φ) (yT : y_T T E μ) (hM : m_top μ) (h : g_t 4 φ μ) (p0 : 0 ≤ p) (p1 : p ≤ E) (p0' : 0 ≤ p') (p1' : p' ≤ E) (hn : q_nx T E p = q_nx T E p') : g_o T E φ μ (g_P φ μ) (J_Fund_readTerms_2_4 (X_t 4 φ p (-1))) (J_Model_termLine_51_4 (y_t μ p' (-1))) := by
  have hE := hT.1
  have hx := q_nx_in hT p0 p1
  have w0 : w32 0 = 0 := w32_of (by decide) (by decide)
  have w1 : w32 1 = 1 := w32_of (by decide) (by decide)
  have hM1 : ∀ x v, m_top (zUp μ 16 x v) := fun x v i hi => by rw [zUp_ne (by decide)]; exact hM i hi
  unfold J_Fund_readTerms_2_4 J_Model_termLine_51_4
  rw [zWr_ok (by decide) (by decide) (by decide), y_t_u (by decide)]
  show g_o T E φ μ (g_P φ μ) (zC (some (.inr (some (zR (some 1000004))), X_t 4 φ p (-1))) _ _) _
  rw [zC_Rc]
  by_cases g : q_wd T E 4 (q_nx T E p)
  · have hl := zSl_in (j := 4) (by decide)
    have gl := g.1
    rw [X_wordY x_pl4 hT kT p0 p1 (by decide) g, M_cm (y_hasY hT yT.u (by decide) p0' p1' (by rw [← hn]; exact g)), w1, if_neg (show ¬ (1 : Int) = 0 by decide), if_neg (show ¬ (1 : Int) = 0 by decide), ← hn]
    have tt := zTop_in (k := 4) (by decide)
    have hx2 := q_nx_in (p := q_nx T E p + zSl 4) hT (by omega) gl
    have t1 : y_t (zUp μ 16 4 0) (q_nx T E p + zSl 4) (-1) 1 4 = zTops.getD 4 0 := by rw [y_t_c (by decide)]; exact hM1 _ _ 4 (by decide)
    rw [show zTop 4 = fun K => K (zTops.getD 4 0) from funext (fun K => zTop_ok (k := 4) (by decide)), zRd_ok (by decide) (by decide) (by decide), t1]
    show g_o T E φ μ (g_P φ μ) (zCm [4, 5] (X_t 4 φ (q_nx T E p + zSl 4) (-1)) (F_Text_takeNumber 0 (zTops.getD 4 0) (zVw [4, 5] (X_t 4 φ (q_nx T E p + zSl 4) (-1)))) _ _) _
    by_cases gn : q_no T E 0 (zTops.getD 4 0) (q_nx T E (q_nx T E p + zSl 4))
    · have d := q_ds_in (x := q_nx T E (q_nx T E p + zSl 4)) hT (by omega) hx2.2.1
      rw [X_numY x_pl4 hT kT (by omega) gl (by decide) (by decide) (by omega) (by omega) gn, M_cm (y_numY hT yT.u (by omega) gl (by decide) (by decide) (by omega) (by omega) gn)]
      unfold J_Fund_readTerms_43_2 J_Model_termLine_102_2
      rw [zWr_ok (by decide) (by decide) (by decide), X_t_u (by decide), X_rightY x_pl4, w1, if_neg (show ¬ (1 : Int) = 0 by decide), zWr_ok (by decide) (by decide) (by decide), y_t_u (by decide)]
      unfold J_Fund_readTerms_53_4 J_Model_termLine_103_4
      exact g_o.up ⟨zUp_ne (by decide), zUp_ne (by decide)⟩ (fun c hc => by rw [zUp_ne hc, zUp_ne hc]) (fun a b q => q.up ⟨zUp_ne (by decide), zUp_ne (by decide), zUp_ne (by decide)⟩ (fun c hc => by rw [zUp_ne hc, zUp_ne hc])) (g_T5 hT kT.u yT.u.u (fun i hi => by rw [zUp_ne (by decide)]; exact hM1 _ _ i hi) (h.put (k := 4) (by decide) gn.2.2.1 gn.2.2.2) (by omega) d.1 (by omega) d.1 rfl)
    · obtain ⟨u, r, e, r0, r1, -, -⟩ := y_numN (lo := 0) (hi := zTops.getD 4 0) hT (yT.u (x := 4) (v := 0)) (show 0 ≤ q_nx T E p + zSl 4 by omega) gl (by decide) (by decide) (by omega) (by omega) gn
      rw [X_numN x_pl4 hT kT (by omega) gl (by decide) (by decide) (by omega) (by omega) gn, M_cm e]
      unfold J_Fund_readTerms_43_2 J_Model_termLine_102_2
      rw [zWr_ok (by decide) (by decide) (by decide), X_t_u (by decide), X_rightN x_pl4 (by omega) (by omega), w0, if_pos rfl, zWr_ok (by decide) (by decide) (by decide), y_t_u (by decide)]
      unfold J_Model_termLine_103_4
      obtain ⟨μ', q, e', o'⟩ := g_F5 (p := r) (f := q_nx T E (q_nx T E p + zSl 4)) hT ((yT.u (x := 4) (v := 0)).u (x := 4) (v := u)) r0 r1 (by omega) (by omega)
      rw [e']
      exact Or.inr ⟨_, _, q_nx T E (q_nx T E p + zSl 4), rfl, rfl, ⟨⟨by rw [X_t_c (by decide), zUp_ne (by decide)], fun k a b => by unfold X_t; rw [zUp_at, q_up_ne b, zUp_at, q_up_ne a, zUp_ne (by decide)]⟩, fun c c0 c16 _ _ _ => by rw [y_t_c c0, o' c c16, zUp_ne c16, zUp_ne c16], fun k a b _ _ _ => by rw [y_t_0 a b, o' 0 (by decide), zUp_ne (by decide), zUp_ne (by decide)]⟩, X_t_3, y_t_24, by omega, hx2.2.1⟩
  · rw [X_wordN x_pl4 hT kT p0 p1 (by decide) g, M_cm (y_hasN hT yT.u (by decide) p0' p1' (by rw [← hn]; exact g)), w0, if_pos rfl, if_pos rfl, ← hn]
    unfold J_Fund_readTerms_53_4 J_Model_termLine_103_4
    exact g_o.up ⟨rfl, rfl⟩ (fun c hc => zUp_ne hc) (fun a b q => q.up ⟨rfl, rfl, rfl⟩ (fun c hc => zUp_ne hc)) (g_T5 hT kT yT.u (hM1 _ _) (h.skip (k := 4) (by decide)) (by omega) hx.2.1 (by omega) hx.2.1 rfl)
theorem g_T3 (hT : q_T T E) (kT : k_T 4 T E φ) (yT : y_T T E μ) (hM : m_top μ) (h : g_t 3 φ μ) (p0 : 0 ≤ p) (p1 : p ≤ E) (p0' : 0 ≤ p') (p1' : p' ≤ E) (hn : q_nx T E p = q_nx T E p') : g_o T E φ μ (g_P φ μ) (J_Fund_readTerms_2_3 (X_t 4 φ p (-1))) (J_Model_termLine_51_3 (y_t μ p' (-1))) := by
  have hE := hT.1
  have hx := q_nx_in hT p0 p1
  have w0 : w32 0 = 0 := w32_of (by decide) (by decide)
  have w1 : w32 1 = 1 := w32_of (by decide) (by decide)
  have hM1 : ∀ x v, m_top (zUp μ 16 x v) := fun x v i hi => by rw [zUp_ne (by decide)]; exact hM i hi
  unfold J_Fund_readTerms_2_3 J_Model_termLine_51_3
  rw [zWr_ok (by decide) (by decide) (by decide), y_t_u (by decide)]
  show g_o T E φ μ (g_P φ μ) (zC (some (.inr (some (zR (some 1000003))), X_t 4 φ p (-1))) _ _) _
  rw [zC_Rc]
  by_cases g : q_wd T E 3 (q_nx T E p)
  · have hl := zSl_in (j := 3) (by decide)
    have gl := g.1
    rw [X_wordY x_pl4 hT kT p0 p1 (by decide) g, M_cm (y_hasY hT yT.u (by decide) p0' p1' (by rw [← hn]; exact g)), w1, if_neg (show ¬ (1 : Int) = 0 by decide), if_neg (show ¬ (1 : Int) = 0 by decide), ← hn]
    unfold J_Fund_readTerms_43_3 J_Model_termLine_102_3
    rw [zWr_ok (by decide) (by decide) (by decide), X_t_u (by decide), X_rightY x_pl4, w1, if_neg (show ¬ (1 : Int) = 0 by decide), zWr_ok (by decide) (by decide) (by decide), y_t_u (by decide)]
    unfold J_Fund_readTerms_53_3 J_Model_termLine_103_3
    exact g_o.up ⟨zUp_ne (by decide), zUp_ne (by decide)⟩ (fun c hc => by rw [zUp_ne hc, zUp_ne hc]) (fun a b q => q.up ⟨zUp_ne (by decide), zUp_ne (by decide), zUp_ne (by decide)⟩ (fun c hc => by rw [zUp_ne hc, zUp_ne hc])) (g_T4 hT kT.u yT.u.u (fun i hi => by rw [zUp_ne (by decide)]; exact hM1 _ _ i hi) (h.put (k := 3) (by decide) (by decide) (by decide)) (by omega) gl (by omega) gl rfl)
  · rw [X_wordN x_pl4 hT kT p0 p1 (by decide) g, M_cm (y_hasN hT yT.u (by decide) p0' p1' (by rw [← hn]; exact g)), w0, if_pos rfl, if_pos rfl, ← hn]
    unfold J_Fund_readTerms_53_3 J_Model_termLine_103_3
    exact g_o.up ⟨rfl, rfl⟩ (fun c hc => zUp_ne hc) (fun a b q => q.up ⟨rfl, rfl, rfl⟩ (fun c hc => zUp_ne hc)) (g_T4 hT kT yT.u (hM1 _ _) (h.skip (k := 3) (by decide)) (by omega) hx.2.1 (by omega) hx.2.1 rfl)
theorem g_T2 (hT : q_T T E) (kT : k_T 4 T E φ) (yT : y_T T E μ) (hM : m_top μ) (h : g_t 2 φ μ) (p0 : 0 ≤ p) (p1 : p ≤ E) (p0' : 0 ≤ p') (p1' : p' ≤ E) (hn : q_nx T E p = q_nx T E p') : g_o T E φ μ (g_P φ μ) (J_Fund_readTerms_2_2 (X_t 4 φ p (-1))) (J_Model_termLine_51_2 (y_t μ p' (-1))) := by
  have hE := hT.1
  have hx := q_nx_in hT p0 p1
  have w0 : w32 0 = 0 := w32_of (by decide) (by decide)
  have w1 : w32 1 = 1 := w32_of (by decide) (by decide)
  have hM1 : ∀ x v, m_top (zUp μ 16 x v) := fun x v i hi => by rw [zUp_ne (by decide)]; exact hM i hi
  unfold J_Fund_readTerms_2_2 J_Model_termLine_51_2
  rw [zWr_ok (by decide) (by decide) (by decide), y_t_u (by decide)]
  show g_o T E φ μ (g_P φ μ) (zC (some (.inr (some (zR (some 1000002))), X_t 4 φ p (-1))) _ _) _
  rw [zC_Rc]
  by_cases g : q_wd T E 2 (q_nx T E p)
  · have hl := zSl_in (j := 2) (by decide)
    have gl := g.1
    rw [X_wordY x_pl4 hT kT p0 p1 (by decide) g, M_cm (y_hasY hT yT.u (by decide) p0' p1' (by rw [← hn]; exact g)), w1, if_neg (show ¬ (1 : Int) = 0 by decide), if_neg (show ¬ (1 : Int) = 0 by decide), ← hn]
    have tt := zTop_in (k := 2) (by decide)
    have hx2 := q_nx_in (p := q_nx T E p + zSl 2) hT (by omega) gl
    have t1 : y_t (zUp μ 16 2 0) (q_nx T E p + zSl 2) (-1) 1 2 = zTops.getD 2 0 := by rw [y_t_c (by decide)]; exact hM1 _ _ 2 (by decide)
    rw [show zTop 2 = fun K => K (zTops.getD 2 0) from funext (fun K => zTop_ok (k := 2) (by decide)), zRd_ok (by decide) (by decide) (by decide), t1]
    show g_o T E φ μ (g_P φ μ) (zCm [4, 5] (X_t 4 φ (q_nx T E p + zSl 2) (-1)) (F_Text_takeNumber 0 (zTops.getD 2 0) (zVw [4, 5] (X_t 4 φ (q_nx T E p + zSl 2) (-1)))) _ _) _
    by_cases gn : q_no T E 0 (zTops.getD 2 0) (q_nx T E (q_nx T E p + zSl 2))
    · have d := q_ds_in (x := q_nx T E (q_nx T E p + zSl 2)) hT (by omega) hx2.2.1
      rw [X_numY x_pl4 hT kT (by omega) gl (by decide) (by decide) (by omega) (by omega) gn, M_cm (y_numY hT yT.u (by omega) gl (by decide) (by decide) (by omega) (by omega) gn)]
      unfold J_Fund_readTerms_43_4 J_Model_termLine_102_4
      rw [zWr_ok (by decide) (by decide) (by decide), X_t_u (by decide), X_rightY x_pl4, w1, if_neg (show ¬ (1 : Int) = 0 by decide), zWr_ok (by decide) (by decide) (by decide), y_t_u (by decide)]
      unfold J_Fund_readTerms_53_2 J_Model_termLine_103_2
      exact g_o.up ⟨zUp_ne (by decide), zUp_ne (by decide)⟩ (fun c hc => by rw [zUp_ne hc, zUp_ne hc]) (fun a b q => q.up ⟨zUp_ne (by decide), zUp_ne (by decide), zUp_ne (by decide)⟩ (fun c hc => by rw [zUp_ne hc, zUp_ne hc])) (g_T3 hT kT.u yT.u.u (fun i hi => by rw [zUp_ne (by decide)]; exact hM1 _ _ i hi) (h.put (k := 2) (by decide) gn.2.2.1 gn.2.2.2) (by omega) d.1 (by omega) d.1 rfl)
    · obtain ⟨u, r, e, r0, r1, -, -⟩ := y_numN (lo := 0) (hi := zTops.getD 2 0) hT (yT.u (x := 2) (v := 0)) (show 0 ≤ q_nx T E p + zSl 2 by omega) gl (by decide) (by decide) (by omega) (by omega) gn
      rw [X_numN x_pl4 hT kT (by omega) gl (by decide) (by decide) (by omega) (by omega) gn, M_cm e]
      unfold J_Fund_readTerms_43_4 J_Model_termLine_102_4
      rw [zWr_ok (by decide) (by decide) (by decide), X_t_u (by decide), X_rightN x_pl4 (by omega) (by omega), w0, if_pos rfl, zWr_ok (by decide) (by decide) (by decide), y_t_u (by decide)]
      unfold J_Model_termLine_103_2
      obtain ⟨μ', q, e', o'⟩ := g_F3 (p := r) (f := q_nx T E (q_nx T E p + zSl 2)) hT ((yT.u (x := 2) (v := 0)).u (x := 2) (v := u)) r0 r1 (by omega) (by omega)
      rw [e']
      exact Or.inr ⟨_, _, q_nx T E (q_nx T E p + zSl 2), rfl, rfl, ⟨⟨by rw [X_t_c (by decide), zUp_ne (by decide)], fun k a b => by unfold X_t; rw [zUp_at, q_up_ne b, zUp_at, q_up_ne a, zUp_ne (by decide)]⟩, fun c c0 c16 _ _ _ => by rw [y_t_c c0, o' c c16, zUp_ne c16, zUp_ne c16], fun k a b _ _ _ => by rw [y_t_0 a b, o' 0 (by decide), zUp_ne (by decide), zUp_ne (by decide)]⟩, X_t_3, y_t_24, by omega, hx2.2.1⟩
  · rw [X_wordN x_pl4 hT kT p0 p1 (by decide) g, M_cm (y_hasN hT yT.u (by decide) p0' p1' (by rw [← hn]; exact g)), w0, if_pos rfl, if_pos rfl, ← hn]
    unfold J_Fund_readTerms_53_2 J_Model_termLine_103_2
    exact g_o.up ⟨rfl, rfl⟩ (fun c hc => zUp_ne hc) (fun a b q => q.up ⟨rfl, rfl, rfl⟩ (fun c hc => zUp_ne hc)) (g_T3 hT kT yT.u (hM1 _ _) (h.skip (k := 2) (by decide)) (by omega) hx.2.1 (by omega) hx.2.1 rfl)
theorem g_T1 (hT : q_T T E) (kT : k_T 4 T E φ) (yT : y_T T E μ) (hM : m_top μ) (h : g_t 1 φ μ) (p0 : 0 ≤ p) (p1 : p ≤ E) (p0' : 0 ≤ p') (p1' : p' ≤ E) (hn : q_nx T E p = q_nx T E p') : g_o T E φ μ (g_P φ μ) (J_Fund_readTerms_2_1 (X_t 4 φ p (-1))) (J_Model_termLine_51_1 (y_t μ p' (-1))) := by
  have hE := hT.1
  have hx := q_nx_in hT p0 p1
  have w0 : w32 0 = 0 := w32_of (by decide) (by decide)
  have w1 : w32 1 = 1 := w32_of (by decide) (by decide)
  have hM1 : ∀ x v, m_top (zUp μ 16 x v) := fun x v i hi => by rw [zUp_ne (by decide)]; exact hM i hi
  unfold J_Fund_readTerms_2_1 J_Model_termLine_51_1
  rw [zWr_ok (by decide) (by decide) (by decide), y_t_u (by decide)]
  show g_o T E φ μ (g_P φ μ) (zC (some (.inr (some (zR (some 1000001))), X_t 4 φ p (-1))) _ _) _
  rw [zC_Rc]
  by_cases g : q_wd T E 1 (q_nx T E p)
  · have hl := zSl_in (j := 1) (by decide)
    have gl := g.1
    rw [X_wordY x_pl4 hT kT p0 p1 (by decide) g, M_cm (y_hasY hT yT.u (by decide) p0' p1' (by rw [← hn]; exact g)), w1, if_neg (show ¬ (1 : Int) = 0 by decide), if_neg (show ¬ (1 : Int) = 0 by decide), ← hn]
    have tt := zTop_in (k := 1) (by decide)
    have hx2 := q_nx_in (p := q_nx T E p + zSl 1) hT (by omega) gl
    have t1 : y_t (zUp μ 16 1 0) (q_nx T E p + zSl 1) (-1) 1 1 = zTops.getD 1 0 := by rw [y_t_c (by decide)]; exact hM1 _ _ 1 (by decide)
    rw [show zTop 1 = fun K => K (zTops.getD 1 0) from funext (fun K => zTop_ok (k := 1) (by decide)), zRd_ok (by decide) (by decide) (by decide), t1]
    show g_o T E φ μ (g_P φ μ) (zCm [4, 5] (X_t 4 φ (q_nx T E p + zSl 1) (-1)) (F_Text_takeNumber 0 (zTops.getD 1 0) (zVw [4, 5] (X_t 4 φ (q_nx T E p + zSl 1) (-1)))) _ _) _
    by_cases gn : q_no T E 0 (zTops.getD 1 0) (q_nx T E (q_nx T E p + zSl 1))
    · have d := q_ds_in (x := q_nx T E (q_nx T E p + zSl 1)) hT (by omega) hx2.2.1
      rw [X_numY x_pl4 hT kT (by omega) gl (by decide) (by decide) (by omega) (by omega) gn, M_cm (y_numY hT yT.u (by omega) gl (by decide) (by decide) (by omega) (by omega) gn)]
      unfold J_Fund_readTerms_43_5 J_Model_termLine_102_5
      rw [zWr_ok (by decide) (by decide) (by decide), X_t_u (by decide), X_rightY x_pl4, w1, if_neg (show ¬ (1 : Int) = 0 by decide), zWr_ok (by decide) (by decide) (by decide), y_t_u (by decide)]
      unfold J_Fund_readTerms_53_1 J_Model_termLine_103_1
      exact g_o.up ⟨zUp_ne (by decide), zUp_ne (by decide)⟩ (fun c hc => by rw [zUp_ne hc, zUp_ne hc]) (fun a b q => q.up ⟨zUp_ne (by decide), zUp_ne (by decide), zUp_ne (by decide)⟩ (fun c hc => by rw [zUp_ne hc, zUp_ne hc])) (g_T2 hT kT.u yT.u.u (fun i hi => by rw [zUp_ne (by decide)]; exact hM1 _ _ i hi) (h.put (k := 1) (by decide) gn.2.2.1 gn.2.2.2) (by omega) d.1 (by omega) d.1 rfl)
    · obtain ⟨u, r, e, r0, r1, -, -⟩ := y_numN (lo := 0) (hi := zTops.getD 1 0) hT (yT.u (x := 1) (v := 0)) (show 0 ≤ q_nx T E p + zSl 1 by omega) gl (by decide) (by decide) (by omega) (by omega) gn
      rw [X_numN x_pl4 hT kT (by omega) gl (by decide) (by decide) (by omega) (by omega) gn, M_cm e]
      unfold J_Fund_readTerms_43_5 J_Model_termLine_102_5
      rw [zWr_ok (by decide) (by decide) (by decide), X_t_u (by decide), X_rightN x_pl4 (by omega) (by omega), w0, if_pos rfl, zWr_ok (by decide) (by decide) (by decide), y_t_u (by decide)]
      unfold J_Model_termLine_103_1
      obtain ⟨μ', q, e', o'⟩ := g_F2 (p := r) (f := q_nx T E (q_nx T E p + zSl 1)) hT ((yT.u (x := 1) (v := 0)).u (x := 1) (v := u)) r0 r1 (by omega) (by omega)
      rw [e']
      exact Or.inr ⟨_, _, q_nx T E (q_nx T E p + zSl 1), rfl, rfl, ⟨⟨by rw [X_t_c (by decide), zUp_ne (by decide)], fun k a b => by unfold X_t; rw [zUp_at, q_up_ne b, zUp_at, q_up_ne a, zUp_ne (by decide)]⟩, fun c c0 c16 _ _ _ => by rw [y_t_c c0, o' c c16, zUp_ne c16, zUp_ne c16], fun k a b _ _ _ => by rw [y_t_0 a b, o' 0 (by decide), zUp_ne (by decide), zUp_ne (by decide)]⟩, X_t_3, y_t_24, by omega, hx2.2.1⟩
  · rw [X_wordN x_pl4 hT kT p0 p1 (by decide) g, M_cm (y_hasN hT yT.u (by decide) p0' p1' (by rw [← hn]; exact g)), w0, if_pos rfl, if_pos rfl, ← hn]
    unfold J_Fund_readTerms_53_1 J_Model_termLine_103_1
    exact g_o.up ⟨rfl, rfl⟩ (fun c hc => zUp_ne hc) (fun a b q => q.up ⟨rfl, rfl, rfl⟩ (fun c hc => zUp_ne hc)) (g_T2 hT kT yT.u (hM1 _ _) (h.skip (k := 1) (by decide)) (by omega) hx.2.1 (by omega) hx.2.1 rfl)
theorem g_T0 (hT : q_T T E) (kT : k_T 4 T E φ) (yT : y_T T E μ) (hM : m_top μ) (h : g_t 0 φ μ) (p0 : 0 ≤ p) (p1 : p ≤ E) (p0' : 0 ≤ p') (p1' : p' ≤ E) (hn : q_nx T E p = q_nx T E p') : g_o T E φ μ (g_P φ μ) (J_Fund_readTerms_2 (X_t 4 φ p (-1))) (J_Model_termLine_51 (y_t μ p' (-1))) := by
  have hE := hT.1
  have hx := q_nx_in hT p0 p1
  have w0 : w32 0 = 0 := w32_of (by decide) (by decide)
  have w1 : w32 1 = 1 := w32_of (by decide) (by decide)
  have hM1 : ∀ x v, m_top (zUp μ 16 x v) := fun x v i hi => by rw [zUp_ne (by decide)]; exact hM i hi
  unfold J_Fund_readTerms_2 J_Model_termLine_51
  rw [zWr_ok (by decide) (by decide) (by decide), y_t_u (by decide)]
  show g_o T E φ μ (g_P φ μ) (zC (some (.inr (some (zR (some 1000000))), X_t 4 φ p (-1))) _ _) _
  rw [zC_Rc]
  by_cases g : q_wd T E 0 (q_nx T E p)
  · have hl := zSl_in (j := 0) (by decide)
    have gl := g.1
    rw [X_wordY x_pl4 hT kT p0 p1 (by decide) g, M_cm (y_hasY hT yT.u (by decide) p0' p1' (by rw [← hn]; exact g)), w1, if_neg (show ¬ (1 : Int) = 0 by decide), if_neg (show ¬ (1 : Int) = 0 by decide), ← hn]
    have tt := zTop_in (k := 0) (by decide)
    have hx2 := q_nx_in (p := q_nx T E p + zSl 0) hT (by omega) gl
    have t1 : y_t (zUp μ 16 0 0) (q_nx T E p + zSl 0) (-1) 1 0 = zTops.getD 0 0 := by rw [y_t_c (by decide)]; exact hM1 _ _ 0 (by decide)
    rw [show zTop 0 = fun K => K (zTops.getD 0 0) from funext (fun K => zTop_ok (k := 0) (by decide)), zRd_ok (by decide) (by decide) (by decide), t1]
    show g_o T E φ μ (g_P φ μ) (zCm [4, 5] (X_t 4 φ (q_nx T E p + zSl 0) (-1)) (F_Text_takeNumber 0 (zTops.getD 0 0) (zVw [4, 5] (X_t 4 φ (q_nx T E p + zSl 0) (-1)))) _ _) _
    by_cases gn : q_no T E 0 (zTops.getD 0 0) (q_nx T E (q_nx T E p + zSl 0))
    · have d := q_ds_in (x := q_nx T E (q_nx T E p + zSl 0)) hT (by omega) hx2.2.1
      rw [X_numY x_pl4 hT kT (by omega) gl (by decide) (by decide) (by omega) (by omega) gn, M_cm (y_numY hT yT.u (by omega) gl (by decide) (by decide) (by omega) (by omega) gn)]
      unfold J_Fund_readTerms_43_6 J_Model_termLine_102_6
      rw [zWr_ok (by decide) (by decide) (by decide), X_t_u (by decide), X_rightY x_pl4, w1, if_neg (show ¬ (1 : Int) = 0 by decide), zWr_ok (by decide) (by decide) (by decide), y_t_u (by decide)]
      unfold J_Fund_readTerms_53 J_Model_termLine_103
      exact g_o.up ⟨zUp_ne (by decide), zUp_ne (by decide)⟩ (fun c hc => by rw [zUp_ne hc, zUp_ne hc]) (fun a b q => q.up ⟨zUp_ne (by decide), zUp_ne (by decide), zUp_ne (by decide)⟩ (fun c hc => by rw [zUp_ne hc, zUp_ne hc])) (g_T1 hT kT.u yT.u.u (fun i hi => by rw [zUp_ne (by decide)]; exact hM1 _ _ i hi) (h.put (k := 0) (by decide) gn.2.2.1 gn.2.2.2) (by omega) d.1 (by omega) d.1 rfl)
    · obtain ⟨u, r, e, r0, r1, -, -⟩ := y_numN (lo := 0) (hi := zTops.getD 0 0) hT (yT.u (x := 0) (v := 0)) (show 0 ≤ q_nx T E p + zSl 0 by omega) gl (by decide) (by decide) (by omega) (by omega) gn
      rw [X_numN x_pl4 hT kT (by omega) gl (by decide) (by decide) (by omega) (by omega) gn, M_cm e]
      unfold J_Fund_readTerms_43_6 J_Model_termLine_102_6
      rw [zWr_ok (by decide) (by decide) (by decide), X_t_u (by decide), X_rightN x_pl4 (by omega) (by omega), w0, if_pos rfl, zWr_ok (by decide) (by decide) (by decide), y_t_u (by decide)]
      unfold J_Model_termLine_103
      obtain ⟨μ', q, e', o'⟩ := g_F1 (p := r) (f := q_nx T E (q_nx T E p + zSl 0)) hT ((yT.u (x := 0) (v := 0)).u (x := 0) (v := u)) r0 r1 (by omega) (by omega)
      rw [e']
      exact Or.inr ⟨_, _, q_nx T E (q_nx T E p + zSl 0), rfl, rfl, ⟨⟨by rw [X_t_c (by decide), zUp_ne (by decide)], fun k a b => by unfold X_t; rw [zUp_at, q_up_ne b, zUp_at, q_up_ne a, zUp_ne (by decide)]⟩, fun c c0 c16 _ _ _ => by rw [y_t_c c0, o' c c16, zUp_ne c16, zUp_ne c16], fun k a b _ _ _ => by rw [y_t_0 a b, o' 0 (by decide), zUp_ne (by decide), zUp_ne (by decide)]⟩, X_t_3, y_t_24, by omega, hx2.2.1⟩
  · rw [X_wordN x_pl4 hT kT p0 p1 (by decide) g, M_cm (y_hasN hT yT.u (by decide) p0' p1' (by rw [← hn]; exact g)), w0, if_pos rfl, if_pos rfl, ← hn]
    unfold J_Fund_readTerms_53 J_Model_termLine_103
    exact g_o.up ⟨rfl, rfl⟩ (fun c hc => zUp_ne hc) (fun a b q => q.up ⟨rfl, rfl, rfl⟩ (fun c hc => zUp_ne hc)) (g_T1 hT kT yT.u (hM1 _ _) (h.skip (k := 0) (by decide)) (by omega) hx.2.1 (by omega) hx.2.1 rfl)
end UA
