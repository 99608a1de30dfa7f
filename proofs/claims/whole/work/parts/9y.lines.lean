/-! ===== the fund's other lines ===== -/
def g_V (m : Nat) (e : Int) : Prop := 0 ≤ e ∧ e < 64 ∧ (∀ i : Nat, m ≤ i → i < 6 → ¬ w32 (zand (zshr e i) 1) = 1) ∧ (0 < m → ¬ ∀ i : Nat, i < m → w32 (zand (zshr e i) 1) = 1)
def g_D (m dl : Nat) (td : Int) (φ μ : ZMem) : Prop := (φ 0 3 = m ∧ φ 0 4 = dl ∧ φ 0 5 = td) ∧ (μ 0 28 = m ∧ μ 0 29 = dl ∧ μ 0 30 = td) ∧ (td = 0 ∨ td = 1) ∧ (m ≤ 6 ∧ dl ≤ 6) ∧ g_t 7 φ μ ∧ (∀ i : Nat, i < m → φ 2 i = μ 17 i ∧ 1 ≤ μ 17 i ∧ μ 17 i ≤ 9999) ∧ (∀ d : Nat, d < 6 → φ 3 d = μ 18 d ∧ g_V m (μ 18 d))
def g_Q (φ μ : ZMem) : Prop := ∃ m dl td, g_D m dl td φ μ
theorem g_bits : ∀ f : Nat, f < 64 → ∀ m : Nat, m < 7 → (∀ i : Nat, i < 6 → (w32 (zand (zshr (f : Int) (i : Int)) 1) = 1 ↔ i < m)) → w32 (f : Int) = w32 (zshl 1 (m : Int) - 1) := by decide +kernel
section UB
variable {m dl : Nat} {T : Int → Int} {E p p' w f x v td : Int} {φ μ φ1 μ1 : ZMem}
theorem y_t_u0 {k : Int} (h1 : k ≠ 23) (h2 : k ≠ 24) : zUp (y_t μ p f) 0 k v = y_t (zUp μ 0 k v) p f := by
  unfold y_t
  rw [zUp_swap (show (24 : Int) ≠ k from fun q => h2 q.symm), zUp_swap (show (23 : Int) ≠ k from fun q => h1 q.symm)]
theorem g_D.xy (h : g_D m dl td φ μ) : g_D m dl td (X_t 4 φ p w) (y_t μ p' f) := by
  unfold g_D g_t
  rw [X_t_c (show (0 : Nat) ≠ 4 by decide), X_t_c (show (1 : Nat) ≠ 4 by decide), X_t_c (show (2 : Nat) ≠ 4 by decide), X_t_c (show (3 : Nat) ≠ 4 by decide), y_t_0 (show (28 : Int) ≠ 23 by decide) (by decide), y_t_0 (show (29 : Int) ≠ 23 by decide) (by decide), y_t_0 (show (30 : Int) ≠ 23 by decide) (by decide), y_t_c (show (16 : Nat) ≠ 0 by decide), y_t_c (show (17 : Nat) ≠ 0 by decide), y_t_c (show (18 : Nat) ≠ 0 by decide)]
  exact h
theorem g_V.more (h : g_V m v) (hm : m < 6) : g_V (m + 1) v := by
  obtain ⟨h0, h1, h2, -⟩ := h
  exact ⟨h0, h1, fun i i0 i1 => h2 i (by omega) i1, fun _ q => h2 m (Nat.le_refl _) hm (q m (by omega))⟩
theorem g_V.or {i : Int} (h : g_V m v) (hm : m ≤ 6) (i0 : 0 ≤ i) (i1 : i < m) (hne : ¬ w32 (zor v (zshl 1 i)) = w32 (zshl 1 (m : Int) - 1)) : g_V m (zor v (zshl 1 i)) := by
  obtain ⟨h0, h1, h2, -⟩ := h
  obtain ⟨⟨b0, b1⟩, bb⟩ := bit_or (f := v) (i := i) h0 h1 i0 (by omega)
  have up : ∀ q : Nat, m ≤ q → q < 6 → ¬ w32 (zand (zshr (zor v (zshl 1 i)) (q : Int)) 1) = 1 := fun q q0 q1 e => by
    rcases (bb q (by omega) (by omega)).mp e with e' | e'
    · omega
    · exact h2 q q0 q1 e'
  refine ⟨b0, b1, up, fun hp => ?_⟩
  have := g_bits (zor v (zshl 1 i)).toNat (by omega) m (by omega)
  rw [Int.toNat_of_nonneg b0] at this
  exact fun all => hne (this (fun q q1 => ⟨fun e => by
    rcases Nat.lt_or_ge q m with hq | hq
    · exact hq
    · exact absurd e (up q hq q1), fun hq => all q hq⟩))
theorem g_o.no {P : ZMem → ZMem → Prop} {Rc Rm : Option ZRes} {φ' μ' : ZMem} (e1 : Rc = some (.inr (some (zI 0)), X_t 4 φ' p f)) (e2 : Rm = some (.inr none, y_t μ' p' f)) (h1 : φ' 5 = φ 5 ∧ φ' 4 = φ 4) (h2 : ∀ c, c ≠ 0 → c ≠ 16 → c ≠ 17 → c ≠ 18 → μ' c = μ c) (h3 : ∀ k, k ≠ 28 → k ≠ 29 → k ≠ 30 → μ' 0 k = μ 0 k) (f0 : 0 ≤ f) (f1 : f ≤ E) : g_o T E φ μ P Rc Rm :=
  Or.inr ⟨_, _, f, e1, e2, ⟨⟨by rw [X_t_c (by decide)]; exact h1.1, fun k a b => by unfold X_t; rw [zUp_at, q_up_ne b, zUp_at, q_up_ne a, h1.2]⟩, fun c c0 c16 c17 c18 _ => by rw [y_t_c c0]; exact h2 c c0 c16 c17 c18, fun k a b c d e => by rw [y_t_0 a b]; exact h3 k c d e⟩, X_t_3, y_t_24, f0, f1⟩
theorem g_o.yes {Rc Rm : Option ZRes} {φ' μ' : ZMem} (e1 : Rc = some (.inr (some (zI 1)), X_t 4 φ' p (-1))) (e2 : Rm = some (.inr none, y_t μ' p (-1))) (D : g_D m dl td φ' μ') (h1 : φ' 5 = φ 5 ∧ φ' 4 = φ 4) (h2 : ∀ c, c ≠ 0 → c ≠ 16 → c ≠ 17 → c ≠ 18 → μ' c = μ c) (h3 : ∀ k, k ≠ 28 → k ≠ 29 → k ≠ 30 → μ' 0 k = μ 0 k) (p0 : 0 ≤ p) (p1 : p ≤ E) : g_o T E φ μ g_Q Rc Rm :=
  Or.inl ⟨_, _, e1, e2, ⟨m, dl, td, D.xy⟩, ⟨⟨by rw [X_t_c (by decide)]; exact h1.1, fun k a b => by unfold X_t; rw [zUp_at, q_up_ne b, zUp_at, q_up_ne a, h1.2]⟩, fun c c0 c16 c17 c18 _ => by rw [y_t_c c0]; exact h2 c c0 c16 c17 c18, fun k a b c d e => by rw [y_t_0 a b]; exact h3 k c d e⟩, X_t_3, y_t_24, by rw [X_t_2]; exact ⟨p0, p1⟩, by rw [y_t_23]; exact ⟨p0, p1⟩, by rw [X_t_2, y_t_23]⟩
theorem g_excuse (hT : q_T T E) (kT : k_T 4 T E φ) (yT : y_T T E μ) (D : g_D m dl td φ μ) (p0 : 0 ≤ p) (p1 : p ≤ E) : g_o T E φ μ g_Q (F_Fund_readExcuse (X_t 4 φ p (-1))) (F_Model_excuseLine (y_t μ p (-1))) := by
  obtain ⟨⟨c3, c4, c5⟩, ⟨y28, y29, y30⟩, htd, ⟨h6, hdl⟩, ht, hp, he⟩ := id D
  have hE := hT.1
  have hx := q_nx_in hT p0 p1
  have w0 : w32 0 = 0 := w32_of (by decide) (by decide)
  have w1 : w32 1 = 1 := w32_of (by decide) (by decide)
  unfold F_Fund_readExcuse F_Model_excuseLine
  rw [X_t_c (show (0 : Nat) ≠ 4 by decide), c3, y_t_0 (show (28 : Int) ≠ 23 by decide) (by decide), y28]
  by_cases g : q_no T E 0 ((m : Int) - 1) (q_nx T E p)
  · have d := q_ds_in (x := q_nx T E p) hT (by omega) hx.2.1
    have gb := g.2.2
    rw [X_numY x_pl4 hT kT p0 p1 (by decide) (by decide) (by omega) (by omega) g, y_numY hT yT p0 p1 (by decide) (by decide) (by omega) (by omega) g, zC_I, X_rightY x_pl4, w1, if_neg (show ¬ (1 : Int) = 0 by decide)]
    generalize hi : q_vl T (q_nx T E p) (q_ds T E (q_nx T E p)) = i at *
    generalize hq : q_nx T E p + (q_ds T E (q_nx T E p) : Int) = q at *
    have q0 : 0 ≤ q := by omega
    have hx2 := q_nx_in hT q0 d.1
    have ee := q_nx_nx hT q0 d.1
    rw [X_next x_pl4 hT kT q0 d.1, y_here hT yT q0 d.1, zC_I, X_t_c (show (0 : Nat) ≠ 4 by decide), c4, y_t_0 (show (29 : Int) ≠ 23 by decide) (by decide), y29]
    by_cases g2 : q_no T E 0 ((dl : Int) - 1) (q_nx T E q)
    · have d2 := q_ds_in (x := q_nx T E q) hT (by omega) hx2.2.1
      have gb2 := g2.2.2
      rw [X_numY x_pl4 hT kT (by omega) hx2.2.1 (by decide) (by decide) (by omega) (by omega) (by rw [ee]; exact g2), y_numY hT yT (by omega) hx2.2.1 (by decide) (by decide) (by omega) (by omega) (by rw [ee]; exact g2), zC_I, X_rightY x_pl4, w1, if_neg (show ¬ (1 : Int) = 0 by decide), y_t_24, if_pos rfl, ee]
      generalize hj : q_vl T (q_nx T E q) (q_ds T E (q_nx T E q)) = j at *
      have hej := he j.toNat (by omega)
      rw [Int.toNat_of_nonneg gb2.1] at hej
      rw [zRd_ok (by omega) (by omega) (by omega), zLet_eq, zRd_ok (by omega) (by omega) (by omega), X_t_c (show (3 : Nat) ≠ 4 by decide), hej.1, zRd_ok (by omega) (by omega) (by omega), zLet_eq, zRd_ok (by omega) (by omega) (by omega), y_t_c (show (18 : Nat) ≠ 0 by decide), X_t_c (show (0 : Nat) ≠ 4 by decide), c3, y_t_0 (show (28 : Int) ≠ 23 by decide) (by decide), y28]
      have bad : g_o T E φ μ g_Q (J_Fund_readExcuse_86 (q_nx T E q) (X_t 4 φ (q_nx T E q + q_ds T E (q_nx T E q)) (-1))) (J_Model_excuseLine_74 (q_nx T E q) j (zor (μ 18 j) (zshl 1 i)) (y_t μ (q_nx T E q + q_ds T E (q_nx T E q)) (-1))) := by
        unfold J_Fund_readExcuse_86 J_Model_excuseLine_74
        rw [X_refuse x_pl4, if_pos (Or.inl rfl), y_wrongY, zC_V, zWr_ok (by omega) (by omega) (by omega), y_t_u (by decide)]
        exact g_o.no rfl rfl ⟨rfl, rfl⟩ (fun c _ _ _ c18 => zUp_ne c18) (fun k _ _ _ => by rw [zUp_ne (by decide)]) (by omega) hx2.2.1
      by_cases b1 : w32 (zor (μ 18 j) (zshl 1 i)) = w32 (μ 18 j)
      · rw [if_pos b1, if_pos b1]; exact bad
      · rw [if_neg b1, if_neg b1]
        by_cases b2 : w32 (zor (μ 18 j) (zshl 1 i)) = w32 (zshl 1 (m : Int) - 1)
        · rw [if_pos b2, if_pos b2]; exact bad
        · rw [if_neg b2, if_neg b2, zWr_ok (by omega) (by omega) (by omega), zWr_ok (by omega) (by omega) (by omega), X_t_u (by decide), y_t_u (by decide)]
          refine g_o.yes (m := m) (dl := dl) (td := td) rfl rfl ⟨⟨by rw [zUp_ne (by decide)]; exact c3, by rw [zUp_ne (by decide)]; exact c4, by rw [zUp_ne (by decide)]; exact c5⟩, ⟨by rw [zUp_ne (by decide)]; exact y28, by rw [zUp_ne (by decide)]; exact y29, by rw [zUp_ne (by decide)]; exact y30⟩, htd, ⟨h6, hdl⟩, ⟨fun i hi => by rw [zUp_ne (by decide), zUp_ne (by decide)]; exact ht.1 i hi, fun i a b => by rw [zUp_ne (by decide)]; exact ht.2 i a b⟩, fun i hi => by rw [zUp_ne (by decide), zUp_ne (by decide)]; exact hp i hi, fun d hd => ?_⟩ ⟨zUp_ne (by decide), zUp_ne (by decide)⟩ (fun c _ _ _ c18 => zUp_ne c18) (fun k _ _ _ => by rw [zUp_ne (by decide)]) (by omega) d2.1
          rw [zUp_at, zUp_at]
          by_cases e : (d : Int) = j
          · rw [e, q_up_at, q_up_at]
            exact ⟨rfl, hej.2.or h6 gb.1 (by omega) b2⟩
          · rw [q_up_ne e, q_up_ne e]
            exact he d hd
    · obtain ⟨u, r, e, r0, r1, -, -⟩ := y_numN (lo := 0) (hi := (dl : Int) - 1) hT yT (show 0 ≤ q_nx T E q by omega) hx2.2.1 (by decide) (by decide) (by omega) (by omega) (by rw [ee]; exact g2)
      rw [X_numN x_pl4 hT kT (by omega) hx2.2.1 (by decide) (by decide) (by omega) (by omega) (by rw [ee]; exact g2), e, zC_I, ee, X_rightN x_pl4 (by omega) (by omega), w0, if_pos rfl, y_t_24, w32_of (by omega) (by omega), w32_of (by decide) (by decide), if_neg (by omega)]
      exact g_o.no rfl rfl ⟨rfl, rfl⟩ (fun c _ _ _ _ => rfl) (fun k _ _ _ => rfl) (by omega) hx2.2.1
  · obtain ⟨u, r, e, r0, r1, -, -⟩ := y_numN (lo := 0) (hi := (m : Int) - 1) hT yT p0 p1 (by decide) (by decide) (by omega) (by omega) g
    rw [X_numN x_pl4 hT kT p0 p1 (by decide) (by decide) (by omega) (by omega) g, e, zC_I, X_rightN x_pl4 (by omega) (by omega), w0, if_pos rfl, y_here hT yT r0 r1, zC_I, y_numF (by omega) (by omega), zC_I, y_t_24, w32_of (by omega) (by omega), w32_of (by decide) (by decide), if_neg (by omega)]
    exact g_o.no rfl rfl ⟨rfl, rfl⟩ (fun c _ _ _ _ => rfl) (fun k _ _ _ => rfl) (by omega) hx.2.1
end UB
