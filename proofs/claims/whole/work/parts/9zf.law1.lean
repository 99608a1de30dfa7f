/-! ===== the law's world: both beside each other ===== -/
abbrev plMd : List Nat := [115, 116, 117, 118, 119, 120, 121, 122, 123, 124, 125, 126, 127, 128, 129, 130, 131, 132, 133, 134, 135, 136, 137, 138, 139]
def Zl (μ : ZMem) : Prop := ∃ m dl a, z_all m dl a (zVw pl_1 μ) (zVw plMd μ)
theorem la_1 : ∀ c : Nat, c < 115 → zIx pl_1 0 (zRho pl_1 c) = some c ∧ zIx pl_2 0 (zRho pl_1 c) = some c ∧ zRho pl_2 c = zRho pl_1 c ∧ zIx pl_0 0 c = some c ∧ zRho pl_0 c = c ∧ zIx plMd 0 (zRho pl_1 c) = none := by decide +kernel
theorem la_2 : ∀ j : Nat, j < 25 → zRho plMd j = 115 + j ∧ zIx plMd 0 (115 + j) = some j ∧ zIx pl_1 0 (115 + j) = none ∧ zIx pl_2 0 (115 + j) = none := by decide +kernel
theorem la_3 : zIx pl_2 0 140 = some 115 ∧ zIx plMd 0 140 = none ∧ zRho pl_0 115 = 115 ∧ zIx pl_0 0 115 = none := by decide +kernel
def zvI : ZV → Int
  | .inl x => w32 x
  | _ => 0
def zvJ : ZV → Int
  | .inr (.inl x) => x
  | _ => 0
section LA
variable {m dl a : Nat} {κ μ κ' μ' ν : ZMem}
theorem zMg_none {pl : List Nat} {c : Nat} (h : zIx pl 0 c = none) : zMg pl μ ν c = μ c := by
  funext i
  unfold zMg
  rw [h]
theorem z_all.ext (h : z_all m dl a κ μ) (ek : ∀ c, c < 115 → κ' c = κ c) (em : ∀ c, c < 25 → μ' c = μ c) : z_all m dl a κ' μ' := by
  obtain ⟨⟨M, C⟩, hT, hZ, hP, hI⟩ := h
  refine ⟨⟨M.cong (fun c c0 c1 => em c (by omega)) (fun k hk => by rw [em 0 (by decide)]), ?_⟩, fun k hk => ?_, ?_, ?_, ?_⟩
  · rw [em 2 (by decide), em 3 (by decide), em 4 (by decide), em 8 (by decide)]
    exact C.cg (fun c c0 c1 => ek c (by omega))
  · rw [em 1 (by decide)]; exact hT k hk
  · unfold m_zz
    rw [em 2 (by decide), em 3 (by decide), em 4 (by decide), em 8 (by decide)]
    exact hZ
  · unfold z_tp
    rw [ek 1 (by decide), ek 2 (by decide), em 0 (by decide), em 15 (by decide)]
    exact hP
  · unfold z_im
    rw [ek 0 (by decide), ek 109 (by decide), ek 110 (by decide), ek 111 (by decide), ek 112 (by decide), ek 113 (by decide), ek 114 (by decide), em 0 (by decide), em 14 (by decide)]
    exact hI
/-- behind both calls -/
theorem Zl.of {μ1 : ZMem} (h : z_all m dl a κ' μ') (e1 : ∀ c, c < 115 → μ1 (zRho pl_1 c) = κ' c) : Zl (zMg plMd μ1 μ') := by
  refine ⟨m, dl, a, h.ext (fun c hc => ?_) (fun c hc => ?_)⟩
  · show zMg plMd μ1 μ' (zRho pl_1 c) = κ' c
    rw [zMg_none (la_1 c hc).2.2.2.2.2]
    exact e1 c hc
  · show zMg plMd μ1 μ' (zRho plMd c) = μ' c
    rw [(la_2 c hc).1]
    exact zMg_in (la_2 c hc).2.1
theorem la_thrown : F_Model_thrown (zVw plMd μ) = some (.inr (some (zI (μ 115 0))), zVw plMd μ) := rfl
variable {Fc Fm FL C D : ZMem → Option ZRes} {cs : List (String × Int)}
/-- a call of both that throws nothing -/
theorem lw_A1 {v : ZV} (hs : ∀ m dl a κ μ, z_all m dl a κ μ → z_step [] (Fc κ) (Fm μ)) (Z : Zl μ) : ∃ κ' μ' v, Fc (zVw pl_1 μ) = some (.inr (some v), κ') ∧ Fm (zVw plMd (zMg pl_1 μ κ')) = some (.inr (some v), μ') ∧ Zl (zMg plMd (zMg pl_1 μ κ') μ') := by
  obtain ⟨m, dl, a, Z⟩ := Z
  obtain ⟨r, κ', v0, μ0, -, -, -, f1, -, -, -⟩ := hs _ _ _ _ _ Z
  have Z' : z_all m dl a (zVw pl_1 μ) (zVw plMd (zMg pl_1 μ κ')) := Z.ext (fun _ _ => rfl) (fun c hc => by
    show zMg pl_1 μ κ' (zRho plMd c) = μ (zRho plMd c)
    rw [(la_2 c hc).1]
    exact zMg_none (la_2 c hc).2.2.1)
  obtain ⟨r', κ1, v, μ1, m', dl', a', g1, g2, g3, g4⟩ := hs _ _ _ _ _ Z'
  rw [f1] at g1
  cases g1
  rcases g4 with ⟨hr, -⟩ | ⟨E, n, hr, -, -, hx⟩
  · subst hr
    refine ⟨κ', μ1, v, f1, g2, Zl.of g3 (fun c hc => ?_)⟩
    rw [zMg_in (la_1 c hc).1]
  · exfalso
    have := hx μ
    cases this
theorem lw_AI (hs : ∀ m dl a κ μ, z_all m dl a κ μ → z_step [] (Fc κ) (Fm μ)) (ht : ∀ μ, zT true (Fm μ)) (Z : Zl μ) : ∃ μ', Zl μ' ∧ zCm pl_1 μ (Fc (zVw pl_1 μ)) (zkI (fun x μ1 => zCm plMd μ1 (Fm (zVw plMd μ1)) (zkI (fun y μ2 => if w32 x = w32 y then C μ2 else D μ2)) zX0)) zX0 = C μ' := by
  obtain ⟨κ', μ', v, e1, e2, Z'⟩ := lw_A1 (v := zI 0) hs Z
  obtain ⟨i, rfl⟩ := (ht _ _ _ e2).1 rfl
  refine ⟨_, Z', ?_⟩
  rw [e1, zCm_I, e2, zCm_I, if_pos rfl]
theorem lw_AJ (hs : ∀ m dl a κ μ, z_all m dl a κ μ → z_step [] (Fc κ) (Fm μ)) (ht : ∀ μ, zT false (Fm μ)) (Z : Zl μ) : ∃ μ', Zl μ' ∧ zCm pl_1 μ (Fc (zVw pl_1 μ)) (zkJ (fun x μ1 => zCm plMd μ1 (Fm (zVw plMd μ1)) (zkJ (fun y μ2 => if w64 x = w64 y then C μ2 else D μ2)) zX0)) zX0 = C μ' := by
  obtain ⟨κ', μ', v, e1, e2, Z'⟩ := lw_A1 (v := zI 0) hs Z
  obtain ⟨i, rfl⟩ := (ht _ _ _ e2).2 rfl
  refine ⟨_, Z', ?_⟩
  rw [e1, zCm_J, e2, zCm_J, if_pos rfl]
theorem lw_V (hs : ∀ m dl a κ μ, z_all m dl a κ μ → ∃ κ' μ', Fc κ = some (.inr none, κ') ∧ Fm μ = some (.inr none, μ') ∧ z_all m dl a κ' μ' ∧ μ' 0 0 = 0) (Z : Zl μ) : ∃ μ', Zl μ' ∧ zCm pl_1 μ (Fc (zVw pl_1 μ)) (zkV (fun μ1 => zCm plMd μ1 (Fm (zVw plMd μ1)) (zkV (fun μ2 => C μ2)) zX0)) zX0 = C μ' := by
  obtain ⟨m, dl, a, Z⟩ := Z
  obtain ⟨κ', μ0, f1, -, -, -⟩ := hs _ _ _ _ _ Z
  have Z' : z_all m dl a (zVw pl_1 μ) (zVw plMd (zMg pl_1 μ κ')) := Z.ext (fun _ _ => rfl) (fun c hc => by
    show zMg pl_1 μ κ' (zRho plMd c) = μ (zRho plMd c)
    rw [(la_2 c hc).1]
    exact zMg_none (la_2 c hc).2.2.1)
  obtain ⟨κ1, μ1, g1, g2, g3, g4⟩ := hs _ _ _ _ _ Z'
  rw [f1] at g1
  cases g1
  refine ⟨zMg plMd (zMg pl_1 μ κ') μ1, Zl.of (μ1 := zMg pl_1 μ κ') g3 (fun c hc => by rw [zMg_in (la_1 c hc).1]), ?_⟩
  rw [f1, zCm_V, g2, zCm_V]
/-- a call of both that may throw: the class behind its wrapper -/
theorem lw_C1 (hs : ∀ m dl a κ μ, z_all m dl a κ μ → z_step cs (Fc κ) (Fm μ)) (Z : Zl μ) : ∃ r κ', Fc (zVw pl_0 (zVw pl_2 μ)) = some (r, κ') ∧ ∀ ρ : ZMem, (∀ c, c < 115 → ρ c = κ' c) → ∃ v μ', Fm (zVw plMd (zMg pl_2 μ ρ)) = some (.inr (some v), μ') ∧ Zl (zMg plMd (zMg pl_2 μ ρ) μ') ∧ z_ag cs r v (μ' 0 0) := by
  obtain ⟨m, dl, a, Z⟩ := Z
  have Z0 : ∀ μm, (∀ c, c < 25 → μm c = zVw plMd μ c) → z_all m dl a (zVw pl_0 (zVw pl_2 μ)) μm := fun μm hm => Z.ext (fun c hc => by
    show μ (zRho pl_2 (zRho pl_0 c)) = μ (zRho pl_1 c)
    rw [(la_1 c hc).2.2.2.2.1, (la_1 c hc).2.2.1]) hm
  obtain ⟨r, κ', v0, μ0, -, -, -, f1, -, -, -⟩ := hs _ _ _ _ _ (Z0 _ (fun _ _ => rfl))
  refine ⟨r, κ', f1, fun ρ hρ => ?_⟩
  obtain ⟨r', κ1, v, μ1, m', dl', a', g1, g2, g3, g4⟩ := hs _ _ _ _ _ (Z0 (zVw plMd (zMg pl_2 μ ρ)) (fun c hc => by
    show zMg pl_2 μ ρ (zRho plMd c) = μ (zRho plMd c)
    rw [(la_2 c hc).1]
    exact zMg_none (la_2 c hc).2.2.2))
  rw [f1] at g1
  cases g1
  refine ⟨v, μ1, g2, Zl.of g3 (fun c hc => ?_), g4⟩
  rw [zMg_in (la_1 c hc).2.1]
  exact hρ c hc
theorem lw_CI (hs : ∀ m dl a κ μ, z_all m dl a κ μ → z_step cs (Fc κ) (Fm μ)) (ht : ∀ μ, zT true (Fm μ)) (hL : ∀ ν, FL ν = zCm pl_0 ν (Fc (zVw pl_0 ν)) (zkI (fun x2 μ1 => zWr μ1 115 1 0 (w32 x2) (fun μ3 => some (.inr (some (zI 0)), μ3)))) (zXh cs)) (Z : Zl μ) : ∃ μ', Zl μ' ∧ zCm pl_2 μ (FL (zVw pl_2 μ)) (zkI (fun c μ1 => zCm plMd μ1 (Fm (zVw plMd μ1)) (zkI (fun y μ2 => zCm plMd μ2 (F_Model_thrown (zVw plMd μ2)) (zkI (fun t μ3 => if w32 t = w32 c then (if w32 c = 0 then (zRd μ3 140 1 0 (fun o => if w64 o = w64 (w32 y) then C μ3 else D μ3)) else C μ3) else D μ3)) zX0)) zX0)) zX0 = C μ' := by
  obtain ⟨r, κ', f1, hρ⟩ := lw_C1 hs Z
  have w0 : w32 0 = 0 := w32_of (by decide) (by decide)
  match r with
  | .inr (some v0) =>
    obtain ⟨v, μ', e2, Z', ag⟩ := hρ (zUp (zMg pl_0 (zVw pl_2 μ) κ') 115 0 (zvI v0)) (fun c hc => by rw [zUp_ne (by omega), zMg_in (la_1 c hc).2.2.2.1])
    rcases ag with ⟨hr, h0⟩ | ⟨E, n, hr, -, -, -⟩
    · cases hr
      obtain ⟨i, rfl⟩ := (ht _ _ _ e2).1 rfl
      have e2' : Fm (zVw plMd (zMg pl_2 μ (zUp (zMg pl_0 (zVw pl_2 μ) κ') 115 0 (w32 i)))) = some (.inr (some (zI i)), μ') := e2
      have Z2 : Zl (zMg plMd (zMg pl_2 μ (zUp (zMg pl_0 (zVw pl_2 μ) κ') 115 0 (w32 i))) μ') := Z'
      refine ⟨_, Z2, ?_⟩
      have e3 : zMg plMd (zMg pl_2 μ (zUp (zMg pl_0 (zVw pl_2 μ) κ') 115 0 (w32 i))) μ' 115 0 = 0 := by
        rw [zMg_in (pl := plMd) (c := 115) (j := 0) (by decide)]; exact h0
      have e4 : zMg plMd (zMg pl_2 μ (zUp (zMg pl_0 (zVw pl_2 μ) κ') 115 0 (w32 i))) μ' 140 0 = w32 i := by
        rw [zMg_none la_3.2.1, zMg_in la_3.1, zUp_at, q_up_at]
      rw [hL, f1, zCm_I, zWr_ok (by decide) (by decide) (by decide), zCm_I, e2', zCm_I, la_thrown, zCm_I, zMg_vw, e3, if_pos rfl, w0, if_pos rfl, zRd_ok (by decide) (by decide) (by decide), e4, if_pos rfl]
    · cases hr
  | .inl E0 =>
    obtain ⟨v, μ', e2, Z', ag⟩ := hρ (zMg pl_0 (zVw pl_2 μ) κ') (fun c hc => by rw [zMg_in (la_1 c hc).2.2.2.1])
    rcases ag with ⟨hr, -⟩ | ⟨E, n, hr, hn, hn2, hx⟩
    · cases hr
    · cases hr
      obtain ⟨i, rfl⟩ := (ht _ _ _ e2).1 rfl
      refine ⟨_, Z', ?_⟩
      have e3 : zMg plMd (zMg pl_2 μ (zMg pl_0 (zVw pl_2 μ) κ')) μ' 115 0 = n := by
        rw [zMg_in (pl := plMd) (c := 115) (j := 0) (by decide)]; exact hn
      have eL : FL (zVw pl_2 μ) = some (.inr (some (zI n)), zMg pl_0 (zVw pl_2 μ) κ') := by
        rw [hL, f1]
        exact hx _
      rw [eL, zCm_I, e2, zCm_I, la_thrown, zCm_I, zMg_vw, e3, if_pos rfl, w32_of (by omega) (by omega), if_neg (by omega)]
  | .inr none =>
    obtain ⟨v, μ', e2, Z', ag⟩ := hρ κ' (fun _ _ => rfl)
    rcases ag with ⟨hr, -⟩ | ⟨E, n, hr, -⟩
    · cases hr
    · cases hr
theorem lw_CJ (hs : ∀ m dl a κ μ, z_all m dl a κ μ → z_step cs (Fc κ) (Fm μ)) (ht : ∀ μ, zT false (Fm μ)) (hL : ∀ ν, FL ν = zCm pl_0 ν (Fc (zVw pl_0 ν)) (zkJ (fun x2 μ1 => zWr μ1 115 1 0 x2 (fun μ3 => some (.inr (some (zI 0)), μ3)))) (zXh cs)) (Z : Zl μ) : ∃ μ', Zl μ' ∧ zCm pl_2 μ (FL (zVw pl_2 μ)) (zkI (fun c μ1 => zCm plMd μ1 (Fm (zVw plMd μ1)) (zkJ (fun y μ2 => zCm plMd μ2 (F_Model_thrown (zVw plMd μ2)) (zkI (fun t μ3 => if w32 t = w32 c then (if w32 c = 0 then (zRd μ3 140 1 0 (fun o => if w64 o = w64 y then C μ3 else D μ3)) else C μ3) else D μ3)) zX0)) zX0)) zX0 = C μ' := by
  obtain ⟨r, κ', f1, hρ⟩ := lw_C1 hs Z
  have w0 : w32 0 = 0 := w32_of (by decide) (by decide)
  match r with
  | .inr (some v0) =>
    obtain ⟨v, μ', e2, Z', ag⟩ := hρ (zUp (zMg pl_0 (zVw pl_2 μ) κ') 115 0 (zvJ v0)) (fun c hc => by rw [zUp_ne (by omega), zMg_in (la_1 c hc).2.2.2.1])
    rcases ag with ⟨hr, h0⟩ | ⟨E, n, hr, -, -, -⟩
    · cases hr
      obtain ⟨i, rfl⟩ := (ht _ _ _ e2).2 rfl
      have e2' : Fm (zVw plMd (zMg pl_2 μ (zUp (zMg pl_0 (zVw pl_2 μ) κ') 115 0 i))) = some (.inr (some (zJ i)), μ') := e2
      have Z2 : Zl (zMg plMd (zMg pl_2 μ (zUp (zMg pl_0 (zVw pl_2 μ) κ') 115 0 i)) μ') := Z'
      refine ⟨_, Z2, ?_⟩
      have e3 : zMg plMd (zMg pl_2 μ (zUp (zMg pl_0 (zVw pl_2 μ) κ') 115 0 i)) μ' 115 0 = 0 := by
        rw [zMg_in (pl := plMd) (c := 115) (j := 0) (by decide)]; exact h0
      have e4 : zMg plMd (zMg pl_2 μ (zUp (zMg pl_0 (zVw pl_2 μ) κ') 115 0 i)) μ' 140 0 = i := by
        rw [zMg_none la_3.2.1, zMg_in la_3.1, zUp_at, q_up_at]
      rw [hL, f1, zCm_J, zWr_ok (by decide) (by decide) (by decide), zCm_I, e2', zCm_J, la_thrown, zCm_I, zMg_vw, e3, if_pos rfl, w0, if_pos rfl, zRd_ok (by decide) (by decide) (by decide), e4, if_pos rfl]
    · cases hr
  | .inl E0 =>
    obtain ⟨v, μ', e2, Z', ag⟩ := hρ (zMg pl_0 (zVw pl_2 μ) κ') (fun c hc => by rw [zMg_in (la_1 c hc).2.2.2.1])
    rcases ag with ⟨hr, -⟩ | ⟨E, n, hr, hn, hn2, hx⟩
    · cases hr
    · cases hr
      obtain ⟨i, rfl⟩ := (ht _ _ _ e2).2 rfl
      refine ⟨_, Z', ?_⟩
      have e3 : zMg plMd (zMg pl_2 μ (zMg pl_0 (zVw pl_2 μ) κ')) μ' 115 0 = n := by
        rw [zMg_in (pl := plMd) (c := 115) (j := 0) (by decide)]; exact hn
      have eL : FL (zVw pl_2 μ) = some (.inr (some (zI n)), zMg pl_0 (zVw pl_2 μ) κ') := by
        rw [hL, f1]
        exact hx _
      rw [eL, zCm_I, e2, zCm_J, la_thrown, zCm_I, zMg_vw, e3, if_pos rfl, w32_of (by omega) (by omega), if_neg (by omega)]
  | .inr none =>
    obtain ⟨v, μ', e2, Z', ag⟩ := hρ κ' (fun _ _ => rfl)
    rcases ag with ⟨hr, -⟩ | ⟨E, n, hr, -⟩
    · cases hr
    · cases hr
end LA
