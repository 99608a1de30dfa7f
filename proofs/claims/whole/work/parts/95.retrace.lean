/-! ===== the books go through the journal again ===== -/
abbrev plBB : List Nat := [0, 1, 2, 3, 4, 5]
section GB
variable {m dl a : Nat} {B : Int} {tm ex pr J s : Int → Int} {σ : QS} {ν : ZMem}
theorem q_inv.nm (h : q_inv m dl B s) (hm : m ≤ 6) : q_inv m dl B (q_nm s) := by
  obtain ⟨h1, h2, h3, h4, h5⟩ := h
  refine ⟨fun i hi => ?_, fun d hd => ?_, ⟨fun l hl => ?_, fun l hl hl8 => ?_⟩, ?_, fun k hk => ?_⟩
  · rw [q_nm_lo (by omega), q_nm_lo (by omega), q_nm_lo (by omega), q_nm_lo (by omega), q_nm_lo (by omega)]
    exact h1 i hi
  · have := h2 d hd
    rw [q_nm_ne (k := 30 + 4 * d) (by unfold q_mk; omega), q_nm_ne (k := 30 + 4 * d + 1) (by unfold q_mk; omega), q_nm_at (k := 30 + 4 * d + 2) (by unfold q_mk; omega), q_nm_ne (k := 30 + 4 * d + 3) (by unfold q_mk; omega)]
    exact ⟨this.1, this.2.1, ⟨by omega, by omega⟩, this.2.2.2⟩
  · rw [q_nm_lo (by omega), q_nm_lo (by omega), q_nm_lo (by omega), q_nm_lo (by omega)]
    exact h3.1 l hl
  · rw [q_nm_lo (by omega), q_nm_lo (by omega), q_nm_lo (by omega), q_nm_lo (by omega)]
    exact h3.2 l hl hl8
  · unfold q_iP
    rw [q_nm_lo (by omega), q_nm_lo (by omega), q_nm_lo (by omega), q_nm_lo (by omega), q_nm_lo (by omega), q_nm_lo (by omega)]
    exact h4
  · rw [q_nm_lo (by omega)]
    exact h5 k hk
theorem q_nm_hi {s' : Int → Int} (h : ∀ k, 30 ≤ k → s' k = s k) : ∀ k, 30 ≤ k → k < 92 → q_nm s' k = q_nm s k := fun k hk _ => by
  unfold q_nm
  rw [h k hk]
theorem k_mgBB {ν ν' : ZMem} (c : Nat) (hc : 6 ≤ c) : zMg plBB ν ν' c = ν c := zMg_out (by simp only [List.mem_cons, List.not_mem_nil, or_false]; omega)
theorem b_mgBB {ν ν' : ZMem} (h : b_bk dl tm s ν') : b_bk dl tm s (zMg plBB ν ν') := h.cong (zMg_in (j := 0) (by decide)) (zMg_in (j := 1) (by decide)) (zMg_in (j := 2) (by decide)) (zMg_in (j := 3) (by decide)) (zMg_in (j := 4) (by decide))
theorem b_vwBB (h : b_bk dl tm s ν) : b_bk dl tm s (zVw plBB ν) := h.cong rfl rfl rfl rfl rfl
theorem b_retrace_wait {n : Nat} (h : b_bk dl tm (q_nm σ.1) ν) (hi : q_inv m dl B σ.1) (hf : q_fu m dl tm ex pr) (hB0 : 0 ≤ B) (hB1 : B + 2 * (200 - σ.1 90) ≤ 760) (hn : σ.1 90 + n ≤ 200) (hn2 : n ≤ 60) (hfee : ∀ i : Nat, i < n → ν 8 (σ.1 90 + i) = q_fee m tm (q_wn m tm ex i σ).1) (K : ZMem → Option ZRes) : ∃ ν', L_Books_retrace_120 n K zN 0 ν = K ν' ∧ b_bk dl tm (q_nm (q_wn m tm ex n σ).1) ν' ∧ ∀ c, 6 ≤ c → ν' c = ν c := by
  have h6 := hf.1
  have hdl := hf.2.1
  have ht := hf.2.2.1
  have h90 := hi.2.2.2.1.2.2.2.2.1
  obtain ⟨⟨v, ν1⟩, e, j, hv, hjj, hb, f1⟩ := q_loop (L := fun f (b : Int × ZMem) => L_Books_retrace_120 n K f b.1 b.2) (P := fun i b => ∃ j : Nat, b.1 = j ∧ j + i = n ∧ b_bk dl tm (q_nm (q_wn m tm ex j σ).1) b.2 ∧ ∀ c, 6 ≤ c → b.2 c = ν c) (fun f i b hb => by
      obtain ⟨v, ν1⟩ := b
      obtain ⟨j, hv, hjj, hb, f1⟩ := hb
      simp only [] at hv hb f1 ⊢
      subst hv
      obtain ⟨hi1, e90⟩ := q_inv.wn (tm := tm) (ex := ex) hi h6 hdl ht hB0 hB1 j (by omega)
      have e6 : ν1 0 6 = σ.1 90 + j := by
        have : ν1 0 6 = q_nm (q_wn m tm ex j σ).1 90 := hb.2.2.2.2.2.2.1
        rw [this, q_nm_lo (by omega), e90]
      have hfe := q_fee_in (tm := tm) hi1.1 h6 ht
      have e8 : ν1 8 (σ.1 90 + j) = q_fee m tm (q_wn m tm ex j σ).1 := by rw [f1 8 (by decide)]; exact hfee j (by omega)
      obtain ⟨ν2, r, b2⟩ := b_pass (fee := q_fee m tm (q_wn m tm ex j σ).1) (b_vwBB hb) (hi1.nm h6) (by omega) (by omega) ht hfe.1 hfe.2.1
      refine ⟨((j : Int) + 1, zMg plBB ν1 ν2), ?_, j + 1, rfl, by omega, ?_, fun c hc => (k_mgBB c hc).trans (f1 c hc)⟩
      · rw [L_Books_retrace_120, w32_of (by omega) (by omega), w32_of (by omega) (by omega), if_neg (by omega), e6, w32_of (by decide) (by decide), w32_of (by omega) (by omega), if_neg (by omega), zRd_ok (by omega) (by omega) (by omega), e8, r, zCm_V, zLet_eq]
      · rw [q_nm_qb] at b2
        exact (b_mgBB b2).congr (q_nm_hi (fun k hk => q_qt_hi h6 k hk))) n zN (0, ν) ⟨0, rfl, by omega, by rw [q_wn]; exact h, fun _ _ => rfl⟩ (Nat.le_of_lt (zN_gt (by omega)))
  simp only [] at e hv hb f1
  obtain rfl : j = n := by omega
  refine ⟨ν1, ?_, hb, f1⟩
  rw [e, hv]
  obtain ⟨f, hfu⟩ : ∃ f, zN - j = f + 1 := ⟨zN - j - 1, by have := zN_gt (m := j) (by omega); omega⟩
  rw [hfu, L_Books_retrace_120, if_pos (Int.le_refl _)]
end GB
