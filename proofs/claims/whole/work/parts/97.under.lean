/-! ===== the class's books under another term ===== -/
abbrev plUBo : List Nat := [33, 34, 35, 36, 37, 38, 3, 4, 5, 6]
abbrev plUr : List Nat := [33, 34, 35, 36, 37, 38, 11, 12, 31]
section GD
variable {m dl a : Nat} {B x y : Int} {tm ex pr J s : Int → Int} {σ : QS} {κ ν : ZMem}
theorem k_mgB {pl : List Nat} (hp : ∀ j, j < 6 → zIx pl 0 (33 + j) = some j) (f : ∀ c, 6 ≤ c → ν c = zVw pl κ c) : (∀ j, j < 6 → zVw plUB (zMg pl κ ν) j = ν j) ∧ (∀ c, c < 33 ∨ 39 ≤ c → zMg pl κ ν c = κ c) := by
  refine ⟨fun j hj => ?_, fun c hc => ?_⟩
  · have e1 : zRho plUB j = 33 + j := by
      have : ∀ j : Nat, j < 6 → zRho plUB j = 33 + j := by decide
      exact this j hj
    show zMg pl κ ν (zRho plUB j) = ν j
    rw [e1]
    exact zMg_in (hp j hj)
  · funext i
    unfold zMg
    cases hx : zIx pl 0 c with
    | none => rfl
    | some j =>
      have e := zIx_rho hx
      have hj : 6 ≤ j := by
        rcases Nat.lt_or_ge j 6 with h1 | h1
        · exfalso
          have e2 := zIx_rho (hp j h1)
          omega
        · exact h1
      show ν j i = κ c i
      rw [f j hj]
      show κ (zRho pl j) i = κ c i
      rw [e]
theorem b_bk.setT {v : Int} (h : b_bk dl tm s ν) : b_bk dl (q_up tm x v) s (zUp ν 1 x v) := by
  obtain ⟨h1, h2, h3, h4, h5, h6, h7, h8⟩ := h
  refine ⟨fun k k0 k1 => ?_, ?_, ?_, ?_, ?_, ?_, ?_, ?_⟩
  · rw [zUp_at]
    by_cases e : k = x
    · rw [e, q_up_at, q_up_at]
    · rw [q_up_ne e, q_up_ne e]
      exact h1 k k0 k1
  · rw [zUp_ne (by decide)]; exact h2
  · rw [zUp_ne (by decide)]; exact h3
  · rw [zUp_ne (by decide)]; exact h4
  · rw [zUp_ne (by decide)]; exact h5
  · rw [zUp_ne (by decide)]; exact h6
  · rw [zUp_ne (by decide)]; exact h7
  · rw [zUp_ne (by decide)]; exact h8
theorem k_under (C : c_at m dl a tm ex pr J κ) (hf : q_fu m dl tm ex pr) (hj : q_jo m dl tm ex pr J a) (x0 : 0 ≤ x) (x1 : x < 6) (ht' : q_tm (q_up tm x y)) : ∃ κ', F_Ledger_booksUnder x y κ = some (.inr (some (zR (some 33))), κ') ∧ b_bk dl (q_up tm x y) (q_nm (q_run m (q_up tm x y) ex pr J a).1) (zVw plUB κ') ∧ ∀ c, c < 33 ∨ 39 ≤ c → κ' c = κ c := by
  have h60 := hj.1
  have e6 : (q_up tm x y) 6 = tm 6 := q_up_ne (by omega)
  have hf' : q_fu m dl (q_up tm x y) ex pr := ⟨hf.1, hf.2.1, ht', hf.2.2.2⟩
  have hj' : q_jo m dl (q_up tm x y) ex pr J a := hj.terms hf e6
  obtain ⟨⟨c1, c2, -, c3, c4, c5⟩, ⟨k11, hJ, -⟩, hs, -⟩ := C
  have hF : ∀ q, 0 ≤ q → q < 201 → κ 31 q = (q_run m tm ex pr J a).2.2.2 q := hs.2.2.2.2.2
  obtain ⟨ν, r, b, f⟩ := b_open (m := m) (dl := dl) (tm := tm) (pr := pr) (μ := zVw plUBo κ) hf.1 c3 c2
  obtain ⟨g1, g2⟩ := k_mgB (pl := plUBo) (κ := κ) (ν := ν) (by decide) f
  have b1 : b_bk dl tm (q_s00 m pr) (zVw plUB (zMg plUBo κ ν)) := b.cong (g1 0 (by decide)) (g1 1 (by decide)) (g1 2 (by decide)) (g1 3 (by decide)) (g1 4 (by decide))
  have b2 : b_bk dl (q_up tm x y) (q_nm (q_0 m pr).1) (zVw plUB (zUp (zMg plUBo κ ν) 34 x y)) := by
    have hz : ∀ k, 30 ≤ k → k < 92 → q_nm (q_0 m pr).1 k = q_s00 m pr k := fun k k0 k1 => by
      have e : q_s00 m pr k = 0 := if_neg (by have := hf.1; omega)
      unfold q_nm
      show (if _ then (0 : Int) else q_s00 m pr k) = q_s00 m pr k
      rw [e]
      split <;> rfl
    refine ((b1.setT (x := x) (v := y)).cong ?_ ?_ ?_ ?_ ?_).congr hz
    · show zUp (zMg plUBo κ ν) 34 x y 33 = zUp (zVw plUB (zMg plUBo κ ν)) 1 x y 0
      rw [zUp_ne (by decide), zUp_ne (by decide)]
      rfl
    · show zUp (zMg plUBo κ ν) 34 x y 34 = zUp (zVw plUB (zMg plUBo κ ν)) 1 x y 1
      rw [zUp_at, zUp_at]
      rfl
    · show zUp (zMg plUBo κ ν) 34 x y 35 = zUp (zVw plUB (zMg plUBo κ ν)) 1 x y 2
      rw [zUp_ne (by decide), zUp_ne (by decide)]
      rfl
    · show zUp (zMg plUBo κ ν) 34 x y 36 = zUp (zVw plUB (zMg plUBo κ ν)) 1 x y 3
      rw [zUp_ne (by decide), zUp_ne (by decide)]
      rfl
    · show zUp (zMg plUBo κ ν) 34 x y 37 = zUp (zVw plUB (zMg plUBo κ ν)) 1 x y 4
      rw [zUp_ne (by decide), zUp_ne (by decide)]
      rfl
  unfold F_Ledger_booksUnder
  rw [r, zCm_V, zWr_ok (by omega) (by omega) (by omega)]
  obtain ⟨⟨v, κ1⟩, e, j, hv, hjj, hb, f1⟩ := q_loop (L := fun f (b : Int × ZMem) => L_Ledger_booksUnder_26 (fun μ7 => some (.inr (some (zR (some 33))), μ7)) f b.1 b.2) (P := fun i b => ∃ j : Nat, b.1 = j ∧ j + i = a ∧ b_bk dl (q_up tm x y) (q_nm (q_run m (q_up tm x y) ex pr J j).1) (zVw plUB b.2) ∧ ∀ c, c < 33 ∨ 39 ≤ c → b.2 c = κ c) (fun fu i bb hb => by
      obtain ⟨v, κ1⟩ := bb
      obtain ⟨j, hv, hjj, hb, f1⟩ := hb
      simp only [] at hv hb f1 ⊢
      subst hv
      obtain ⟨hi, b0, b3, q0, q1⟩ := q_run_B (k := j) hf' hj' (by omega)
      have e6j := q_e6.run (tm := tm) (tm' := q_up tm x y) (ex := ex) (pr := pr) hf.1 hf.2.1 e6 (fun k hk => (hj.2 k hk).1) j (by omega)
      have e6s := q_e6.run (tm := tm) (tm' := q_up tm x y) (ex := ex) (pr := pr) hf.1 hf.2.1 e6 (fun k hk => (hj.2 k hk).1) (j + 1) (by omega)
      have e90 := e6j.1 90 (Or.inr (Or.inr (Or.inl rfl)))
      have e90s := e6s.1 90 (Or.inr (Or.inr (Or.inl rfl)))
      have hact := (hj'.2 j (by omega))
      obtain ⟨ν1, r1, bb1, ff1⟩ := b_retrace (k := j) (a := a) (J := J) (ν := zVw plUr κ1) (hb.cong rfl rfl rfl rfl rfl) hi hf' b0 b3 (by show j_rw J a (κ1 12); rw [f1 12 (by decide)]; exact hJ) (by omega) h60 hact.1 hact.2 (fun h4 i hi' => by
        have hw : q_can m dl ex 4 (J (5 * j + 1)) (J (5 * j + 2)) (J (5 * j + 4)) (q_run m (q_up tm x y) ex pr J j).1 = 1 := by
          have := hact.2
          unfold q_jc at this
          rw [h4] at this
          exact this
        have hw2 := q_can_wait hw
        have erun : q_run m (q_up tm x y) ex pr J (j + 1) = q_wn m (q_up tm x y) ex (J (5 * j + 2)).toNat (q_run m (q_up tm x y) ex pr J j) := by
          rw [q_run_succ]
          unfold q_jd q_do
          rw [h4, if_neg (by decide), if_neg (by decide), if_neg (by decide), if_neg (by decide), if_pos rfl]
        have en : (q_run m (q_up tm x y) ex pr J (j + 1)).1 90 = (q_run m (q_up tm x y) ex pr J j).1 90 + (J (5 * j + 2)).toNat := by rw [erun]; exact q_wn_90 hf.1 _
        show κ1 31 ((q_run m (q_up tm x y) ex pr J j).1 90 + i) = _
        rw [f1 31 (by decide), hF _ (by omega) (by omega)]
        have g := (q_run_fees (k := j + 1) (q := (q_run m (q_up tm x y) ex pr J j).1 90 + i) hf hj (by omega) (a - (j + 1)) (by omega)).1
        rw [show j + 1 + (a - (j + 1)) = a by omega] at g
        rw [g, ← e6s.2, erun]
        exact q_wn_fee hf.1 _ i (by omega))
      obtain ⟨g1, g2⟩ := k_mgB (pl := plUr) (κ := κ1) (ν := ν1) (by decide) ff1
      refine ⟨((j : Int) + 1, zMg plUr κ1 ν1), ?_, j + 1, rfl, by omega, ?_, fun c hc => (g2 c hc).trans (f1 c hc)⟩
      · rw [L_Ledger_booksUnder_26, f1 11 (by decide), k11, w32_of (by omega) (by omega), w32_of (by omega) (by omega), if_neg (by omega), r1, zCm_V, zLet_eq]
      · rw [q_run_succ]
        exact bb1.cong (g1 0 (by decide)) (g1 1 (by decide)) (g1 2 (by decide)) (g1 3 (by decide)) (g1 4 (by decide))) a zN (0, zUp (zMg plUBo κ ν) 34 x y) ⟨0, rfl, by omega, b2, fun c hc => by simp only []; rw [zUp_ne (by omega)]; exact g2 c hc⟩ (Nat.le_of_lt (zN_gt (by omega)))
  simp only [] at e hv hb f1
  obtain rfl : j = a := by omega
  refine ⟨κ1, ?_, hb, f1⟩
  refine e.trans ?_
  rw [hv]
  obtain ⟨f, hfu⟩ : ∃ f, zN - j = f + 1 := ⟨zN - j - 1, by have := zN_gt (m := j) (by omega); omega⟩
  rw [hfu, L_Ledger_booksUnder_26, f1 11 (by decide), k11, if_pos (Int.le_refl _)]
end GD
