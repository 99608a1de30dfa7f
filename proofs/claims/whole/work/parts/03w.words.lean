/-! ===== the tables' good words; fields by pool numbers ===== -/
def zAll : List Cond := lw_tbl.filter goodWord
theorem zAll_in {w : Cond} (h : w ∈ lw_tbl) (hg : goodWord w = true) : w ∈ zAll := List.mem_filter.mpr ⟨h, hg⟩
/-- a field's row: the pool number names slot k of class ci (kind 0 int, 1 long, 2 reference, 3 boolean; 10 more: final, 20 more: final of another class) -/
def zKd : Nat → FieldType → Bool
  | 0, .int => true
  | 1, .long => true
  | 3, .boolean => true
  | 2, .array _ => true
  | 2, .object _ => true
  | _, _ => false
def zFok (own : String) (q : Nat × Nat × Nat × Nat) : Prop := ∃ (C : String) (T : u_T) (N : Nat) (ty : Nat → FieldType), vwCl[q.2.1]? = some (C, T, N) ∧ q.2.2.1 < N ∧ Cond.fieldLink own q.1 (T q.2.2.1).1 (T q.2.2.1).2.1 (T q.2.2.1).2.2.1 ∈ zAll ∧ (∀ w ∈ u_ws C T N, w ∈ zAll) ∧ (∀ k, k < N → parseFieldDescriptor (T k).2.2.1 = some (ty k)) ∧ (∀ a, a < N → ∀ b, b < N → a ≠ b → (T a).2.1 ≠ (T b).2.1) ∧ zKd (q.2.2.2 % 10) (ty q.2.2.1) = true ∧ (q.2.2.2 < 10 → (T q.2.2.1).2.2.2 = false) ∧ (10 ≤ q.2.2.2 ∧ q.2.2.2 < 20 → (T q.2.2.1).2.2.2 = true ∧ (T q.2.2.1).1 = own)
