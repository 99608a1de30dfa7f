/-! ===== the class's trial state ===== -/
abbrev plU : List Nat := [32, 33, 34, 35, 36, 37, 38, 39, 40, 41, 42, 43, 44, 45, 46, 47, 48, 49, 50]
abbrev plUo : List Nat := [32, 33, 34, 35, 36, 37, 38, 39, 40, 41, 42, 43, 44, 45, 46, 47, 48, 49, 50, 3, 4, 5, 6]
abbrev plUf : List Nat := [32, 33, 34, 35, 36, 37, 38, 39, 40, 41, 42, 43, 44, 45, 46, 47, 48, 49, 50, 11, 12]
abbrev plUB : List Nat := [33, 34, 35, 36, 37, 38]
abbrev plUR : List Nat := [39, 40, 41, 42, 43, 44, 45, 46, 47]
section FS
variable {m dl a : Nat} {B d sum : Int} {tm ex pr J s s' : Int → Int} {σ : QS} {κ μ ν : ZMem} {x y z : Int}
theorem s_U.cells {μ μ' : ZMem} (h : s_U m dl tm ex σ μ) (e : ∀ j, j < 19 → μ' j = μ j) : s_U m dl tm ex σ μ' := by
  obtain ⟨⟨hb, hr⟩, h2⟩ := h
  exact ⟨⟨hb.vw (e 1 (by decide)) (e 2 (by decide)) (e 3 (by decide)) (e 4 (by decide)) (e 5 (by decide)), hr.vw (e 7 (by decide)) (e 8 (by decide)) (e 9 (by decide)) (e 10 (by decide)) (e 12 (by decide))⟩, by rw [e 0 (by decide)]; exact h2⟩
theorem k_mgU {pl : List Nat} (hp : ∀ j, j < 19 → zIx pl 0 (32 + j) = some j) (f : ∀ c, 19 ≤ c → ν c = zVw pl κ c) : (∀ j, j < 19 → zVw plU (zMg pl κ ν) j = ν j) ∧ (∀ c, c < 32 ∨ 51 ≤ c → zMg pl κ ν c = κ c) := by
  refine ⟨fun j hj => ?_, fun c hc => ?_⟩
  · have e1 : zRho plU j = 32 + j := by
      have : ∀ j : Nat, j < 19 → zRho plU j = 32 + j := by decide
      exact this j hj
    show zMg pl κ ν (zRho plU j) = ν j
    rw [e1]
    exact zMg_in (hp j hj)
  · funext i
    unfold zMg
    cases hx : zIx pl 0 c with
    | none => rfl
    | some j =>
      have e := zIx_rho hx
      have hj : 19 ≤ j := by
        rcases Nat.lt_or_ge j 19 with h1 | h1
        · exfalso
          have e2 := zIx_rho (hp j h1)
          omega
        · exact h1
      show ν j i = κ c i
      rw [f j hj]
      show κ (zRho pl j) i = κ c i
      rw [e]
theorem k_open (h : c_at m dl a tm ex pr J κ) (h6 : m ≤ 6) : ∃ κ', (∀ K X, zCm plUo κ (F_State_open_w2 (zVw plUo κ)) (zkV K) X = K κ') ∧ s_U m dl tm ex (q_0 m pr) (zVw plU κ') ∧ (∀ c, c < 32 ∨ 51 ≤ c → κ' c = κ c) := by
  obtain ⟨⟨h1, h2, -, h3, h4, h5⟩, -, -, h02⟩ := h
  obtain ⟨ν, r, hs, f⟩ := u_open (μ := zVw plUo κ) (m := m) (dl := dl) (tm := tm) (ex := ex) (pr := pr) h02 h6 h3 h4 h5 h1 h2
  obtain ⟨g1, g2⟩ := k_mgU (pl := plUo) (κ := κ) (ν := ν) (by decide) f
  exact ⟨zMg plUo κ ν, fun K X => by rw [r, zCm_V], hs.cells g1, g2⟩
theorem k_follow {k : Nat} (h : s_U m dl tm ex σ (zVw plU κ)) (hi : q_inv m dl B σ.1) (hf : q_fu m dl tm ex pr) (hB0 : 0 ≤ B) (hB1 : B + 2 * (200 - σ.1 90) ≤ 760) (hJ : j_rw J a (κ 12)) (hk : k < a) (ha60 : a ≤ 60) (ha : q_ja m dl J k) : ∃ κ', (∀ K X, zCm plUf κ (F_State_follow_w2 k (zVw plUf κ)) (zkI K) X = K (q_jc m dl ex J k σ.1) κ') ∧ s_U m dl tm ex (if q_jc m dl ex J k σ.1 = 1 then q_jd m tm ex J k σ else σ) (zVw plU κ') ∧ (∀ c, c < 32 ∨ 51 ≤ c → κ' c = κ c) := by
  have h' : s_U m dl tm ex σ (zVw plUf κ) := h.cells (fun j hj => by
    have : ∀ j : Nat, j < 19 → zRho plUf j = zRho plU j := by decide
    show κ (zRho plUf j) = κ (zRho plU j)
    rw [this j hj])
  obtain ⟨ν, r, hs, f⟩ := u_follow (μ := zVw plUf κ) h' hi hf hB0 hB1 hJ hk ha60 ha
  obtain ⟨g1, g2⟩ := k_mgU (pl := plUf) (κ := κ) (ν := ν) (by decide) f
  exact ⟨zMg plUf κ ν, fun K X => by rw [r, zCm_I], hs.cells g1, g2⟩
theorem q_run_step {k : Nat} (hf : q_fu m dl tm ex pr) (hj : q_jo m dl tm ex pr J a) (hk : k < a) : (if q_jc m dl ex J k (q_run m tm ex pr J k).1 = 1 then q_jd m tm ex J k (q_run m tm ex pr J k) else q_run m tm ex pr J k) = q_run m tm ex pr J (k + 1) := by
  rw [if_pos (hj.2 k hk).2, q_run_succ]
theorem q_run_B {k : Nat} (hf : q_fu m dl tm ex pr) (hj : q_jo m dl tm ex pr J a) (hk : k ≤ a) : q_inv m dl (6 * k + 2 * (q_run m tm ex pr J k).1 90) (q_run m tm ex pr J k).1 ∧ 0 ≤ 6 * (k : Int) + 2 * (q_run m tm ex pr J k).1 90 ∧ 6 * (k : Int) + 2 * (q_run m tm ex pr J k).1 90 + 2 * (200 - (q_run m tm ex pr J k).1 90) ≤ 760 ∧ 0 ≤ (q_run m tm ex pr J k).1 90 ∧ (q_run m tm ex pr J k).1 90 ≤ 200 := by
  have hi := (q_run_inv hf hj k hk).1
  have h90 := hi.2.2.2.1.2.2.2.2.1
  have := hj.1
  exact ⟨hi, by omega, by omega, h90.1, h90.2⟩
theorem k_behind_loop {n : Nat} (h : c_at m dl a tm ex pr J κ) (hf : q_fu m dl tm ex pr) (hj : q_jo m dl tm ex pr J a) (hn : n ≤ a) (hs : s_U m dl tm ex (q_0 m pr) (zVw plU κ)) (K : ZMem → Option ZRes) : ∃ κ', L_Ledger_behind_53 n y K zN 0 κ = K κ' ∧ s_U m dl tm ex (q_run m tm ex pr J n) (zVw plU κ') ∧ (∀ c, c < 32 ∨ 51 ≤ c → κ' c = κ c) := by
  have h60 := hj.1
  have hJ : j_rw J a (κ 12) := h.2.1.2.1
  obtain ⟨⟨v, κ1⟩, e, j, hv, hjj, hs1, f1⟩ := q_loop (L := fun f (b : Int × ZMem) => L_Ledger_behind_53 n y K f b.1 b.2) (P := fun k b => ∃ j : Nat, b.1 = j ∧ j + k = n ∧ s_U m dl tm ex (q_run m tm ex pr J j) (zVw plU b.2) ∧ (∀ c, c < 32 ∨ 51 ≤ c → b.2 c = κ c)) (fun f k b hb => by
      obtain ⟨v, κ1⟩ := b
      obtain ⟨j, hv, hjj, hs1, f1⟩ := hb
      simp only [] at hv hs1 f1 ⊢
      subst hv
      obtain ⟨hi, b0, b1, -⟩ := q_run_B (k := j) hf hj (by omega)
      obtain ⟨κ2, r, hs2, f2⟩ := k_follow (k := j) (a := a) (J := J) hs1 hi hf b0 b1 (by rw [f1 12 (by decide)]; exact hJ) (by omega) h60 (hj.2 j (by omega)).1
      rw [q_run_step hf hj (by omega)] at hs2
      refine ⟨((j : Int) + 1, κ2), ?_, j + 1, rfl, by omega, hs2, fun c hc => (f2 c hc).trans (f1 c hc)⟩
      rw [L_Ledger_behind_53, w32_of (by omega) (by omega), w32_of (by omega) (by omega), if_neg (by omega), r, zLet_eq]) n zN (0, κ) ⟨0, rfl, by omega, hs, fun _ _ => rfl⟩ (Nat.le_of_lt (zN_gt (by omega)))
  simp only [] at e hv hs1 f1
  obtain rfl : j = n := by omega
  refine ⟨κ1, ?_, hs1, f1⟩
  rw [e, hv]
  obtain ⟨f, hfu⟩ : ∃ f, zN - j = f + 1 := ⟨zN - j - 1, by have := zN_gt (m := j) (by omega); omega⟩
  rw [hfu, L_Ledger_behind_53, if_pos (Int.le_refl _)]
theorem c_fr.trial {κ κ' : ZMem} (h : c_at m dl a tm ex pr J κ) (hs : κ' 32 2 = 0) (f : ∀ c, c < 32 ∨ 51 ≤ c → κ' c = κ c) : c_fr κ κ' := ⟨fun c hc => f c (by omega), hs.trans h.2.2.2.symm⟩
end FS
