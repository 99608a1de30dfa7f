/-! ===== how both begin ===== -/
def kI (ν : ZMem) : ZMem := match F_Ledger_init ν with
  | some (.inr none, ν') => ν'
  | _ => ν
theorem kI_eq (ν : ZMem) : F_Ledger_init ν = some (.inr none, kI ν) := Eq.trans rfl rfl
theorem kI_z (ν : ZMem) : kI ν 3 = (fun _ => 0) ∧ kI ν 4 = (fun _ => 0) ∧ kI ν 6 = (fun _ => 0) ∧ kI ν 11 = (fun _ => 0) ∧ kI ν 14 = (fun _ => 0) ∧ kI ν 15 = (fun _ => 0) ∧ kI ν 16 = (fun _ => 0) ∧ kI ν 17 = (fun _ => 0) ∧ kI ν 18 = (fun _ => 0) ∧ kI ν 20 = (fun _ => 0) ∧ kI ν 25 = (fun _ => 0) ∧ kI ν 30 = (fun _ => 0) ∧ kI ν 31 = (fun _ => 0) := ⟨rfl, rfl, rfl, rfl, rfl, rfl, rfl, rfl, rfl, rfl, rfl, rfl, rfl⟩
theorem kI_s (ν : ZMem) : kI ν 0 = ν 0 ∧ kI ν 1 1 = 0 ∧ kI ν 1 3 = -1 ∧ kI ν 13 2 = 1 ∧ kI ν 32 2 = 0 := ⟨rfl, rfl, rfl, rfl, rfl⟩
def mI1 (ν : ZMem) : ZMem := zUp (zUp (zUp (zUp (zUp (zUp (zUp (zNew ν 1) 1 0 999) 1 1 100) 1 2 50) 1 3 1) 1 4 99) 1 5 100) 1 6 200
def mI2 (ν : ZMem) : ZMem := zUp (zNew (zNew (zNew (zNew (zNew (zNew (zNew (zNew (zNew (mI1 ν) 2) 3) 4) 5) 6) 7) 8) 9) 10) 0 14 60
def mI3 (ν : ZMem) : ZMem := zUp (zNew (zNew (zNew (zNew (zNew (mI2 ν) 11) 12) 13) 14) 15) 0 24 (-1)
def mI4 (ν : ZMem) : ZMem := zNew (zNew (zNew (zNew (zNew (zNew (zNew (zNew (zNew (mI3 ν) 16) 17) 18) 19) 20) 21) 22) 23) 24
theorem mI_eq (ν : ZMem) : F_Model_init ν = zC (F_Model_anew (mI4 ν)) (zkV (fun μ58 => some (.inr none, μ58))) zX0 := by
  unfold F_Model_init
  rw [zLet_eq, zWr_ok (by decide) (by decide) (by decide), zWr_ok (by decide) (by decide) (by decide), zWr_ok (by decide) (by decide) (by decide), zWr_ok (by decide) (by decide) (by decide), zWr_ok (by decide) (by decide) (by decide), zWr_ok (by decide) (by decide) (by decide), zWr_ok (by decide) (by decide) (by decide), zLet_eq, zLet_eq, zLet_eq, zLet_eq, zLet_eq, zLet_eq, zLet_eq, zLet_eq, zLet_eq, zLet_eq, zLet_eq, zLet_eq, zLet_eq, zLet_eq, zLet_eq, zLet_eq, zLet_eq, zLet_eq, zLet_eq, zLet_eq, zLet_eq, zLet_eq, zLet_eq, zLet_eq, zLet_eq]
  unfold mI4 mI3 mI2 mI1
  rfl
theorem mI_z (ν : ZMem) : mI4 ν 2 = (fun _ => 0) ∧ mI4 ν 3 = (fun _ => 0) ∧ mI4 ν 4 = (fun _ => 0) ∧ mI4 ν 5 = (fun _ => 0) ∧ mI4 ν 6 = (fun _ => 0) ∧ mI4 ν 7 = (fun _ => 0) ∧ mI4 ν 8 = (fun _ => 0) := ⟨rfl, rfl, rfl, rfl, rfl, rfl, rfl⟩
theorem mI_0 (ν : ZMem) (k : Int) (h1 : k ≠ 14) (h2 : k ≠ 24) : mI4 ν 0 k = ν 0 k := by
  have e1 : mI4 ν 0 = mI3 ν 0 := rfl
  have e2 : mI3 ν 0 k = mI2 ν 0 k := by
    unfold mI3
    rw [zUp_at, q_up_ne h2]
    rfl
  have e3 : mI2 ν 0 k = mI1 ν 0 k := by
    unfold mI2
    rw [zUp_at, q_up_ne h1]
    rfl
  have e4 : mI1 ν 0 = ν 0 := by
    unfold mI1
    rw [zUp_ne (by decide), zUp_ne (by decide), zUp_ne (by decide), zUp_ne (by decide), zUp_ne (by decide), zUp_ne (by decide), zUp_ne (by decide)]
    rfl
  rw [e1, e2, e3, e4]
theorem mI_s (ν : ZMem) : mI4 ν 0 14 = 60 ∧ mI4 ν 0 24 = -1 := ⟨rfl, rfl⟩
theorem mI_t (ν : ZMem) : m_top (mI4 ν) := fun k hk => by
  match k, hk with
  | 0, _ => rfl
  | 1, _ => rfl
  | 2, _ => rfl
  | 3, _ => rfl
  | 4, _ => rfl
  | 5, _ => rfl
  | 6, _ => rfl
theorem z_start {κ ν : ZMem} (hν : ν 0 = fun _ => 0) (h0 : κ 0 = fun _ => 0) (k3 : κ 3 = fun _ => 0) (k4 : κ 4 = fun _ => 0) (k6 : κ 6 = fun _ => 0) (k11 : κ 11 = fun _ => 0) (k14 : κ 14 = fun _ => 0) (k15 : κ 15 = fun _ => 0) (k16 : κ 16 = fun _ => 0) (k17 : κ 17 = fun _ => 0) (k18 : κ 18 = fun _ => 0) (k20 : κ 20 = fun _ => 0) (k25 : κ 25 = fun _ => 0) (k30 : κ 30 = fun _ => 0) (k31 : κ 31 = fun _ => 0) (s1 : κ 1 1 = 0) (s3 : κ 1 3 = -1) (s13 : κ 13 2 = 1) (s32 : κ 32 2 = 0) :
    ∃ μ', F_Model_init ν = some (.inr none, μ') ∧ z_all 0 0 0 κ μ' := by
  obtain ⟨z2, z3, z4, z5, z6, z7, z8⟩ := mI_z ν
  obtain ⟨s14, s24⟩ := mI_s ν
  have e0 : ∀ k, k ≠ 14 → k ≠ 24 → mI4 ν 0 k = 0 := fun k a b => by rw [mI_0 ν k a b, hν]
  have fu : q_fu 0 0 (mI4 ν 2) (mI4 ν 4) (mI4 ν 3) := by
    rw [z2, z3, z4]
    refine ⟨by decide, by decide, ?_, fun i hi => absurd hi (Nat.not_lt_zero _), fun _ => rfl, fun d hd => absurd hd (Nat.not_lt_zero _)⟩
    unfold q_tm
    exact ⟨by decide, by decide, by decide, by decide, by decide, by decide, by decide⟩
  have cf : m_cf 0 0 (mI4 ν) := ⟨e0 5 (by decide) (by decide), e0 6 (by decide) (by decide), fu, by rw [z5]; exact fun _ _ => rfl, by rw [z6]; exact fun _ _ => rfl, by rw [z7]; exact fun _ _ => rfl, s14⟩
  have jo : q_jo 0 0 (mI4 ν 2) (mI4 ν 4) (mI4 ν 3) (mI4 ν 8) 0 := ⟨by decide, fun k hk => absurd hk (Nat.not_lt_zero _)⟩
  obtain ⟨μ5, r5, kp, k0, -, -, hs⟩ := m_anewS cf
  obtain ⟨g1, g2, g3, g4, g8, g5, g6, g11⟩ := kp.at
  obtain ⟨p1, p2, p3, p4⟩ := q_pair hs
  obtain ⟨iv1, iv2⟩ := q_run_inv fu jo 0 (Nat.le_refl _)
  rw [z2] at g2
  rw [z3] at g3
  rw [z4] at g4
  rw [z8] at g8
  have M : m_at 0 0 0 μ5 := by
    refine ⟨kp.cf cf (by rw [k0]; exact s14) (by rw [p2]; exact iv1.2.2.2.2) (by rw [p3]; exact iv2.1) (by rw [p4]; exact iv2.2), g11.trans (e0 11 (by decide) (by decide)), ?_, ?_, fun k hk => absurd hk (Nat.not_lt_zero _)⟩
    · rw [g2, g3, g4, g8]
      rw [z2, z3, z4, z8] at jo
      exact jo
    · rw [g2, g3, g4, g8]
      rw [z3] at hs
      exact hs
  refine ⟨μ5, by rw [mI_eq, r5, zC_V], ⟨M, ?_⟩, fun k hk => ?_, ?_, ⟨?_, ?_, fun i i0 i1 => ?_, ?_⟩, Or.inl ⟨by rw [h0], ?_⟩⟩
  · rw [g2, g3, g4, g8]
    refine ⟨⟨by rw [k3]; rfl, by rw [k3]; rfl, by rw [k3]; exact Or.inl rfl, fun k _ _ => by rw [k4], fun i i0 i1 => by omega, fun d _ _ => by rw [k6]⟩, ⟨by rw [k11]; rfl, fun k hk => absurd hk (Nat.not_lt_zero _), fun k hk => absurd hk (Nat.not_lt_zero _)⟩, ⟨⟨?_, ?_⟩, s13, fun i i0 i1 => by omega, fun i q i0 i1 => by omega, fun q q0 q1 => ?_, fun q q0 q1 => ?_⟩, s32⟩
    · have s0 : ∀ k, (q_run 0 (fun _ => 0) (fun _ => 0) (fun _ => 0) (fun _ => 0) 0).1 k = 0 := fun k => by
        show q_s00 0 (fun _ => 0) k = 0
        unfold q_s00
        split
        · rfl
        · rfl
      refine ⟨fun k _ _ => ?_, fun k _ _ => ?_, fun k _ _ => ?_, fun k _ _ => ?_, fun k _ _ => ?_, ?_, ?_, ?_⟩
      · show κ 15 k = 0
        rw [k15]
      · show κ 16 k = _
        rw [s0, k16]
      · show κ 16 k = _
        rw [s0, k16]
      · show κ 17 k = _
        rw [s0, k17]
      · show κ 18 k = _
        rw [s0, k18]
      · show κ 14 5 = _
        rw [k14]; rfl
      · show κ 14 6 = _
        rw [s0, k14]
      · show κ 14 7 = _
        rw [s0, k14]
    · refine ⟨fun i i0 i1 => by omega, fun d _ _ => ?_, ?_, ?_, fun i i0 i1 => by omega, ?_⟩
      · show κ 25 d = _
        rw [k25]
      · show κ 20 8 = _
        rw [k20]; rfl
      · show 0 ≤ κ 20 9 ∧ κ 20 9 < 64
        rw [k20]; exact ⟨by decide, by decide⟩
      · show κ 20 10 = _
        rw [k20]; rfl
    · show κ 30 (1206 + q) = _
      rw [k30]; rfl
    · show κ 31 q = _
      rw [k31]; rfl
  · rw [g1]; exact mI_t ν k hk
  · unfold m_zz
    rw [g2, g3, g4, g8]
    exact ⟨fun _ _ => rfl, fun _ _ => rfl, fun _ _ => rfl, fun _ _ => rfl⟩
  · rw [s1, k0, e0 21 (by decide) (by decide)]
  · rw [k0, e0 21 (by decide) (by decide)]; decide
  · rw [k0, e0 21 (by decide) (by decide)] at i1
    omega
  · rw [s3, k0, s24]
  · rw [k0, e0 19 (by decide) (by decide)]
