/-! ===== face: would ===== -/
def m_top (μ : ZMem) : Prop := ∀ k : Nat, k < 7 → μ 1 k = zTops.getD k 0
section GF
variable {m dl a : Nat} {x y : Int} {κ μ ν : ZMem} {tm : Int → Int}
theorem zC_Rc {r : Nat} {ν : ZMem} {K : ZMem → Option ZRes} {X : String → ZMem → Option ZRes} : zC (some (.inr (some (zR (some r))), ν)) (zkRc r K) X = K ν := by
  show (if r = r then K ν else none) = K ν
  exact if_pos rfl
theorem zTop_ok {k : Nat} (h : k < 7) {K : Int → Option ZRes} : zTop k K = K (zTops.getD k 0) := by
  unfold zTop
  rw [w32_of (by omega) (by omega), if_pos (by omega), Int.toNat_natCast]
theorem zTop_in {k : Nat} (h : k < 7) : 0 ≤ zTops.getD k 0 ∧ zTops.getD k 0 ≤ 999 := by
  have : ∀ k : Nat, k < 7 → 0 ≤ zTops.getD k 0 ∧ zTops.getD k 0 ≤ 999 := by decide
  exact this k h
theorem q_tm.set {k : Nat} (h : q_tm tm) (hk : k < 6) (y0 : 0 ≤ y) (y1 : y ≤ zTops.getD k 0) : q_tm (q_up tm k y) := by
  obtain ⟨h0, h1, h2, h3, h4, h5, h6⟩ := h
  have e : ∀ i : Int, q_up tm k y i = if i = k then y else tm i := fun i => rfl
  unfold q_tm
  rw [e, e, e, e, e, e, e]
  match k, hk with
  | 0, _ => exact ⟨⟨y0, y1⟩, h1, h2, h3, h4, h5, h6⟩
  | 1, _ => exact ⟨h0, ⟨y0, y1⟩, h2, h3, h4, h5, h6⟩
  | 2, _ => exact ⟨h0, h1, ⟨y0, y1⟩, h3, h4, h5, h6⟩
  | 3, _ => exact ⟨h0, h1, h2, ⟨y0, y1⟩, h4, h5, h6⟩
  | 4, _ => exact ⟨h0, h1, h2, h3, ⟨y0, y1⟩, h5, h6⟩
  | 5, _ => exact ⟨h0, h1, h2, h3, h4, ⟨y0, y1⟩, h6⟩
end GF
