/-! ===== the journal's rows; the register opened; the trace cleared ===== -/
def j_rw (J : Int → Int) (a : Nat) (R : Int → Int) : Prop := ∀ k : Nat, k < a → R (k * 7) = J (5 * k) ∧ R (k * 7 + 1) = J (5 * k + 1) ∧ R (k * 7 + 2) = J (5 * k + 2) ∧ R (k * 7 + 3) = J (5 * k + 3) ∧ R (k * 7 + 4) = J (5 * k + 4)
abbrev plS : List Nat := [0, 1, 2, 3, 4, 5, 6, 7, 8, 9, 10, 11, 12, 13, 14, 15, 16, 17, 18]
abbrev plBo : List Nat := [1, 2, 3, 4, 5, 6, 19, 20, 21, 22]
abbrev plRo : List Nat := [7, 8, 9, 10, 11, 12, 13, 14, 15, 19, 20, 21, 22]
theorem f_Trace_clear (ν : ZMem) : F_Trace_clear ν = some (.inr none, q_fi (q_fi ν 1 (fun _ => 0) (1407 : Nat)) 2 (fun _ => 0) (201 : Nat)) := by
  unfold F_Trace_clear
  simp only [f_Arrays_fill_w6, f_Arrays_fill_w7, ↓zCm_V]
  congr 2
  funext c
  by_cases c1 : c = 1
  · subst c1
    rw [zMg_out (by decide), zMg_in (j := 0) rfl]
    funext i
    have e : zVw [1] ν 0 i = ν 1 i := rfl
    have e2 : q_fi (q_fi ν 1 (fun _ => 0) (1407 : Nat)) 2 (fun _ => 0) (201 : Nat) 1 = q_fi ν 1 (fun _ => 0) (1407 : Nat) 1 := q_fi_ne (by decide)
    rw [e2]
    by_cases hi : 0 ≤ i ∧ i < 1407
    · rw [q_fi_in hi.1 (by omega), q_fi_in hi.1 (by omega)]
    · rw [q_fi_out (by omega), q_fi_out (by omega), e]
  · by_cases c2 : c = 2
    · subst c2
      rw [zMg_in (j := 0) rfl]
      funext i
      have e : zVw [2] (zMg [1] ν (q_fi (zVw [1] ν) 0 (fun _ => 0) (1407 : Nat))) 0 i = ν 2 i := rfl
      by_cases hi : 0 ≤ i ∧ i < 201
      · rw [q_fi_in hi.1 (by omega), q_fi_in hi.1 (by omega)]
      · rw [q_fi_out (by omega), q_fi_out (by omega), e, q_fi_ne (by decide)]
    · rw [zMg_out (by simp; omega), zMg_out (by simp; omega), q_fi_ne c2, q_fi_ne c1]
theorem r_open {m : Nat} {ex pr : Int → Int} {ν : ZMem} (h6 : m ≤ 6) (hp : ∀ i : Int, 0 ≤ i → i < m → ν 11 i = pr i) (he : ∀ d, 0 ≤ d → d < 6 → ν 12 d = ex d) (hm : ν 9 3 = m) : ∃ ν', F_Register_open ν = some (.inr none, ν') ∧ r_rg m ex (q_s00 m pr) ν' ∧ (∀ i : Int, 0 ≤ i → i < 6 → ν' 4 i = 0) ∧ (∀ c, 9 ≤ c → ν' c = ν c) := by
  unfold F_Register_open
  simp only [↓zLet_eq, f_Arrays_fill_w4, f_Arrays_fill_w5, ↓zCm_V]
  have hz : ∀ j : Nat, j < 6 → ¬ (w32 (zand (zshr 0 (j : Int)) 1) = 1) := by decide +kernel
  refine ⟨_, rfl, ⟨fun i i0 i1 => ⟨?_, ?_, ?_⟩, fun d d0 d1 => ?_, ?_, ?_, fun i i0 i1 => ?_, ?_⟩, fun i i0 i1 => ?_, fun c hc => ?_⟩
  · simp (disch := omega) only [zUp_ne]
    show zCopy (zCopy (zCopy ν 11 1 6) 11 2 6) 12 5 6 1 i = _
    simp (disch := omega) only [zCopy_ne, zCopy_at]
    rw [hp i i0 i1]
    unfold q_s00
    rw [if_pos (by omega), show 5 * i / 5 = i by omega]
  · simp (disch := omega) only [zUp_ne]
    show zCopy (zCopy (zCopy ν 11 1 6) 11 2 6) 12 5 6 2 i = _
    simp (disch := omega) only [zCopy_ne, zCopy_at]
    rw [hp i i0 i1]
    unfold q_s00
    rw [if_pos (by omega), show (5 * i + 1) / 5 = i by omega]
  · simp (disch := omega) only [zUp_ne]
    show q_fi _ 0 (fun _ => 0) (6 : Nat) 0 i = _
    rw [q_fi_in i0 (by omega)]
    exact (if_neg (by omega)).symm
  · simp (disch := omega) only [zUp_ne]
    show zCopy (zCopy (zCopy ν 11 1 6) 11 2 6) 12 5 6 5 d = _
    simp (disch := omega) only [zCopy_ne, zCopy_at]
    exact he d d0 d1
  · simp (disch := omega) only [zUp_at, q_up_ne, q_up_at]
    exact hm
  · simp (disch := omega) only [zUp_at, q_up_ne, q_up_at]
    decide
  · simp (disch := omega) only [zUp_at, q_up_ne, q_up_at]
    obtain ⟨j, rfl⟩ := Int.eq_ofNat_of_zero_le i0
    constructor
    · intro hh
      exact absurd hh (hz j (by omega))
    · intro hh
      have : q_s00 m pr (5 * (j : Int) + 4) = 0 := if_neg (by omega)
      rw [this] at hh
      exact absurd hh (by decide)
  · simp (disch := omega) only [zUp_at, q_up_ne, q_up_at]
    exact (q_sm_zero (fun i hi => if_neg (by omega))).symm
  · simp (disch := omega) only [zUp_ne]
    show q_fi _ 0 (fun _ => 0) (6 : Nat) 0 i = _
    rw [q_fi_in i0 (by omega)]
  · simp (disch := omega) only [zUp_ne]
    rw [zMg_out (by simp; omega), zMg_out (by simp; omega)]
    simp (disch := omega) only [zCopy_ne]
