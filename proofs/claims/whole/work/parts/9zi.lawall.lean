/-! ===== the law, from its beginning ===== -/
theorem zCn_V {pl : List Nat} {μ ν : ZMem} {K : ZMem → Option ZRes} : zCn pl μ (some (.inr none, ν)) K = K (zMg pl μ ν) := rfl
theorem la_4 : ∀ c : Nat, c < 115 → zRho pl_1 c < 115 := by decide +kernel
theorem law_true {N : Nat} {xs : Nat → Int32} (hN : N ≤ 3072) (μ : ZMem) : ∃ μ', F_Law_law N xs μ = some (.inr (some (zI 1)), μ') := by
  unfold F_Law_law
  rw [zLet_eq, kI_eq, zCn_V, zLet_eq]
  have h0 : zVw [0] (zNew μ 0) 0 = fun _ => 0 := rfl
  generalize zVw [0] (zNew μ 0) = ν0 at h0
  obtain ⟨a3, a4, a6, a11, a14, a15, a16, a17, a18, a20, a25, a30, a31⟩ := kI_z ν0
  obtain ⟨b0, b1, b3, b13, b32⟩ := kI_s ν0
  generalize kI ν0 = κ0 at a3 a4 a6 a11 a14 a15 a16 a17 a18 a20 a25 a30 a31 b0 b1 b3 b13 b32
  generalize hμ3 : zNew (zMg pl_0 (zNew μ 0) κ0) 115 = μ3
  obtain ⟨μ', e1, Z⟩ := z_start (κ := zVw pl_1 κ0) (ν := zVw [115] μ3) (by rw [← hμ3]; rfl) (by show κ0 0 = _; rw [b0, h0]) a3 a4 a6 a11 a14 a15 a16 a17 a18 a20 a25 a30 a31 b1 b3 b13 b32
  rw [e1, zCn_V, zLet_eq]
  have Z4 : Zl (zMg plMd μ3 μ') := Zl.of Z (fun c hc => by
    have hr := la_4 c hc
    rw [← hμ3, zNew_ne (by omega), zMg_in (la_1 _ hr).2.2.2.1]
    rfl)
  have Z5 : Zl (zNew (zMg plMd μ3 μ') 140) := by
    obtain ⟨m, dl, a, h⟩ := Z4
    refine ⟨m, dl, a, h.ext (fun c hc => ?_) (fun c hc => ?_)⟩
    · have hr := la_4 c hc
      show zNew (zMg plMd μ3 μ') 140 (zRho pl_1 c) = zMg plMd μ3 μ' (zRho pl_1 c)
      exact zNew_ne (by omega)
    · show zNew (zMg plMd μ3 μ') 140 (zRho plMd c) = zMg plMd μ3 μ' (zRho plMd c)
      rw [(la_2 c hc).1]
      exact zNew_ne (by omega)
  exact lw_loop hN 513 0 _ rfl (by decide) Z5
