/-! ===== a sum by weights, the coins that are left one by one ===== -/
def q_bst (r : Int → Int) : Nat → Int
  | 0 => 0
  | n + 1 => if r (q_bst r n) < r n then (n : Int) else q_bst r n
theorem q_bst_in (r : Int → Int) : ∀ n : Nat, 0 < n → 0 ≤ q_bst r n ∧ q_bst r n < n
  | 0, h => by omega
  | 1, _ => by
    simp [q_bst]
  | n + 2, _ => by
    have h := q_bst_in r (n + 1) (by omega)
    rw [q_bst]
    split <;> omega
theorem q_bst_congr {r r' : Int → Int} : ∀ {n : Nat}, (∀ i : Nat, i < n → r i = r' i) → q_bst r n = q_bst r' n
  | 0, _ => rfl
  | 1, _ => by simp [q_bst]
  | n + 2, h => by
    have e := q_bst_congr (n := n + 1) (fun i hi => h i (by omega))
    have hb := q_bst_in r' (n + 1) (by omega)
    have h1 : r (q_bst r' (n + 1)) = r' (q_bst r' (n + 1)) := by
      have := h (q_bst r' (n + 1)).toNat (by omega)
      rwa [Int.toNat_of_nonneg hb.1] at this
    have q : ∀ f : Int → Int, q_bst f (n + 2) = if f (q_bst f (n + 1)) < f ((n + 1 : Nat) : Int) then ((n + 1 : Nat) : Int) else q_bst f (n + 1) := fun _ => rfl
    rw [q, q, e, h1, h (n + 1) (by omega)]
/-- it is the first greatest -/
theorem q_bst_max (r : Int → Int) : ∀ n : Nat, (∀ i : Nat, i < n → r i ≤ r (q_bst r n)) ∧ (∀ i : Nat, (i : Int) < q_bst r n → r i < r (q_bst r n))
  | 0 => ⟨fun i hi => by omega, fun i hi => by simp [q_bst] at hi; omega⟩
  | n + 1 => by
    obtain ⟨h1, h2⟩ := q_bst_max r n
    rw [q_bst]
    split
    · rename_i hlt
      refine ⟨fun i hi => ?_, fun i hi => ?_⟩
      · by_cases e : i = n
        · rw [e]; exact Int.le_refl _
        · have := h1 i (by omega)
          omega
      · have := h1 i (by omega)
        omega
    · rename_i hlt
      refine ⟨fun i hi => ?_, h2⟩
      by_cases e : i = n
      · rw [e]; omega
      · exact h1 i (by omega)
theorem q_bst_of {r : Int → Int} {n : Nat} {b : Int} (hb0 : 0 ≤ b) (hb : b < n) (h1 : ∀ i : Nat, i < n → r i ≤ r b) (h2 : ∀ i : Nat, (i : Int) < b → r i < r b) : q_bst r n = b := by
  obtain ⟨m1, m2⟩ := q_bst_max r n
  have hin := q_bst_in r n (by omega)
  have c1 : ¬ q_bst r n < b := fun h => by
    have h3 := h2 (q_bst r n).toNat (by omega)
    rw [Int.toNat_of_nonneg hin.1] at h3
    have h4 := m1 b.toNat (by omega)
    rw [Int.toNat_of_nonneg hb0] at h4
    omega
  have c2 : ¬ b < q_bst r n := fun h => by
    have h3 := m2 b.toNat (by omega)
    rw [Int.toNat_of_nonneg hb0] at h3
    have h4 := h1 (q_bst r n).toNat (by omega)
    rw [Int.toNat_of_nonneg hin.1] at h4
    omega
  omega
def q_b0 (w : Int → Int) (all sum : Int) : Int → Int := fun i => if all = 0 then 0 else sum * w i / all
def q_r0 (w : Int → Int) (all sum : Int) : Int → Int := fun i => if all = 0 then 0 else sum * w i % all
def q_cn (m : Nat) : Nat → (Int → Int) → (Int → Int) → (Int → Int)
  | 0, p, _ => p
  | k + 1, p, r => q_cn m k (q_up p (q_bst r m) (p (q_bst r m) + 1)) (q_up r (q_bst r m) (-1))
def q_lf (m : Nat) (w : Int → Int) (sum : Int) : Int := sum - q_sm (q_b0 w (q_sm w m) sum) m
/-- the parts -/
def q_shr (m : Nat) (w : Int → Int) (sum : Int) : Int → Int :=
  if q_sm w m ≤ 0 then q_b0 w (q_sm w m) sum else q_cn m (q_lf m w sum).toNat (q_b0 w (q_sm w m) sum) (q_r0 w (q_sm w m) sum)
theorem q_b0_congr {w w' : Int → Int} {all sum i : Int} (h : w i = w' i) : q_b0 w all sum i = q_b0 w' all sum i := by
  unfold q_b0
  rw [h]
theorem q_r0_congr {w w' : Int → Int} {all sum i : Int} (h : w i = w' i) : q_r0 w all sum i = q_r0 w' all sum i := by
  unfold q_r0
  rw [h]
theorem q_cn_congr {m : Nat} : ∀ (k : Nat) {p p' r r' : Int → Int}, (∀ i : Nat, i < m → p i = p' i) → (∀ i : Nat, i < m → r i = r' i) → ∀ i : Nat, i < m → q_cn m k p r i = q_cn m k p' r' i
  | 0, p, p', r, r', hp, hr => hp
  | k + 1, p, p', r, r', hp, hr => by
    intro i hi
    have e := q_bst_congr hr
    have hb := q_bst_in r' m (by omega)
    have hpb : p (q_bst r' m) = p' (q_bst r' m) := by
      have := hp (q_bst r' m).toNat (by omega)
      rwa [Int.toNat_of_nonneg hb.1] at this
    rw [q_cn, q_cn, e, hpb]
    refine q_cn_congr k (fun j hj => ?_) (fun j hj => ?_) i hi
    · unfold q_up
      split
      · rfl
      · exact hp j hj
    · unfold q_up
      split
      · rfl
      · exact hr j hj
theorem q_shr_congr {m : Nat} {w w' : Int → Int} {sum : Int} (h : ∀ i : Nat, i < m → w i = w' i) : ∀ i : Nat, i < m → q_shr m w sum i = q_shr m w' sum i := by
  intro i hi
  have e := q_sm_congr h
  have eb : ∀ i : Nat, i < m → q_b0 w (q_sm w' m) sum i = q_b0 w' (q_sm w' m) sum i := fun i hi => q_b0_congr (h i hi)
  have er : ∀ i : Nat, i < m → q_r0 w (q_sm w' m) sum i = q_r0 w' (q_sm w' m) sum i := fun i hi => q_r0_congr (h i hi)
  unfold q_shr q_lf
  rw [e, q_sm_congr eb]
  split
  · exact eb i hi
  · exact q_cn_congr _ eb er i hi
section SH
variable {m : Nat} {w : Int → Int} {sum : Int}
theorem q_b0_eq (hA : 0 < q_sm w m) (i : Int) : q_b0 w (q_sm w m) sum i = sum * w i / q_sm w m := if_neg (by omega)
theorem q_r0_eq (hA : 0 < q_sm w m) (i : Int) : q_r0 w (q_sm w m) sum i = sum * w i % q_sm w m := if_neg (by omega)
/-- what remains, all together -/
theorem q_r0_sum (hA : 0 < q_sm w m) : q_sm (q_r0 w (q_sm w m) sum) m = q_sm w m * q_lf m w sum := by
  have h1 : q_sm (fun i => sum * w i) m = q_sm (fun i => q_sm w m * q_b0 w (q_sm w m) sum i + q_r0 w (q_sm w m) sum i) m := q_sm_congr (fun i hi => by
    rw [q_b0_eq hA, q_r0_eq hA]
    exact (Int.mul_ediv_add_emod _ _).symm)
  rw [q_sm_mul, q_sm_add, q_sm_mul] at h1
  unfold q_lf
  rw [Int.mul_sub, Int.mul_comm (q_sm w m) sum]
  omega
theorem q_r0_lo (hA : 0 < q_sm w m) (i : Int) : 0 ≤ q_r0 w (q_sm w m) sum i ∧ q_r0 w (q_sm w m) sum i < q_sm w m := by
  rw [q_r0_eq hA]
  exact ⟨Int.emod_nonneg _ (by omega), Int.emod_lt_of_pos _ hA⟩
theorem q_lf_in (hA : 0 < q_sm w m) : 0 ≤ q_lf m w sum ∧ q_lf m w sum < m := by
  have h1 := q_r0_sum (sum := sum) hA
  have h2 := q_sm_nonneg (n := m) (fun i _ => (q_r0_lo (sum := sum) hA i).1)
  have hm : 0 < m := by
    rcases Nat.eq_zero_or_pos m with h | h
    · subst h; simp [q_sm] at hA
    · exact h
  have h3 : q_sm (q_r0 w (q_sm w m) sum) m ≤ m * (q_sm w m - 1) := q_sm_bd (fun i _ => by have := (q_r0_lo (sum := sum) hA i).2; omega)
  constructor
  · rcases Int.lt_or_le (q_lf m w sum) 0 with h | h
    · have : q_sm w m * q_lf m w sum < 0 := Int.mul_neg_of_pos_of_neg hA h
      omega
    · exact h
  · rcases Int.lt_or_le (q_lf m w sum) m with h | h
    · exact h
    · have h4 : q_sm w m * m ≤ q_sm w m * q_lf m w sum := Int.mul_le_mul_of_nonneg_left h (by omega)
      rw [Int.mul_sub, Int.mul_comm (m : Int)] at h3
      omega
/-- with k coins left: the greatest remainder is above 0 -/
def q_ok (m : Nat) (A : Int) (k : Nat) (r : Int → Int) : Prop :=
  (∀ i : Nat, i < m → -1 ≤ r i ∧ r i < A) ∧ (k : Int) * A - A < q_sm (fun i => if 0 < r i then r i else 0) m
theorem q_ok.best {A : Int} {k : Nat} {r : Int → Int} (h : q_ok m A (k + 1) r) (hA : 0 < A) : 0 < m ∧ 0 < r (q_bst r m) := by
  have h1 : 0 < q_sm (fun i => if 0 < r i then r i else 0) m := by
    have h2 := h.2
    have h3 : 0 ≤ (k : Int) * A := Int.mul_nonneg (by omega) (by omega)
    rw [Int.natCast_add, Int.add_mul] at h2
    omega
  obtain ⟨i, hi, hp⟩ := q_sm_pos h1
  have hm := (q_bst_max r m).1 i hi
  have hp' : 0 < (if 0 < r i then r i else 0) := hp
  split at hp'
  · exact ⟨by omega, by omega⟩
  · omega
theorem q_ok.step {A : Int} {k : Nat} {r : Int → Int} (h : q_ok m A (k + 1) r) (hA : 0 < A) : q_ok m A k (q_up r (q_bst r m) (-1)) := by
  obtain ⟨hm, hb⟩ := h.best hA
  have hin := q_bst_in r m hm
  refine ⟨fun i hi => ?_, ?_⟩
  · unfold q_up
    split
    · omega
    · exact h.1 i hi
  · have e : q_sm (fun i => if 0 < q_up r (q_bst r m) (-1) i then q_up r (q_bst r m) (-1) i else 0) m = q_sm (q_up (fun i => if 0 < r i then r i else 0) (q_bst r m) 0) m := q_sm_congr (fun i hi => by
      unfold q_up
      by_cases e : (i : Int) = q_bst r m
      · simp only [if_pos e]; rfl
      · simp only [if_neg e])
    rw [e, q_sm_up hin.1 hin.2, if_pos hb]
    have h2 := h.2
    have h3 : r (q_bst r m) < A := by
      have := (h.1 (q_bst r m).toNat (by omega)).2
      rwa [Int.toNat_of_nonneg hin.1] at this
    rw [Int.natCast_add, Int.add_mul] at h2
    omega
theorem q_ok_zero (hA : 0 < q_sm w m) : q_ok m (q_sm w m) (q_lf m w sum).toNat (q_r0 w (q_sm w m) sum) := by
  refine ⟨fun i _ => by have := q_r0_lo (sum := sum) hA i; omega, ?_⟩
  have e : q_sm (fun i => if 0 < q_r0 w (q_sm w m) sum i then q_r0 w (q_sm w m) sum i else 0) m = q_sm (q_r0 w (q_sm w m) sum) m := q_sm_congr (fun i _ => by
    have := (q_r0_lo (sum := sum) hA i).1
    split <;> omega)
  rw [e, q_r0_sum hA, Int.toNat_of_nonneg (q_lf_in hA).1, Int.mul_comm]
  omega
theorem q_cn_sum {A : Int} (hA : 0 < A) : ∀ (k : Nat) (p r : Int → Int), q_ok m A k r → q_sm (q_cn m k p r) m = q_sm p m + k
  | 0, p, r, _ => by simp [q_cn]
  | k + 1, p, r, h => by
    have hin := q_bst_in r m (h.best hA).1
    rw [q_cn, q_cn_sum hA k _ _ (h.step hA), q_sm_up hin.1 hin.2]
    omega
/-- each has what its quotient is, or one more where something remained -/
theorem q_cn_each {A : Int} (hA : 0 < A) (p0 r0 : Int → Int) : ∀ (k : Nat) (p r : Int → Int), q_ok m A k r → (∀ i : Nat, i < m → (p i = p0 i ∧ r i = r0 i) ∨ (p i = p0 i + 1 ∧ 0 < r0 i ∧ r i = -1)) → ∀ i : Nat, i < m → q_cn m k p r i = p0 i ∨ (q_cn m k p r i = p0 i + 1 ∧ 0 < r0 i)
  | 0, p, r, _, h => fun i hi => by
    rcases h i hi with h | h
    · exact Or.inl h.1
    · exact Or.inr ⟨h.1, h.2.1⟩
  | k + 1, p, r, ho, h => by
    have hb := (ho.best hA).2
    rw [q_cn]
    refine q_cn_each hA p0 r0 k _ _ (ho.step hA) (fun i hi => ?_)
    unfold q_up
    by_cases e : (i : Int) = q_bst r m
    · rw [if_pos e, if_pos e, ← e]
      rw [← e] at hb
      rcases h i hi with h | h
      · exact Or.inr ⟨by omega, by omega, rfl⟩
      · omega
    · rw [if_neg e, if_neg e]
      exact h i hi
theorem q_shr_eq (hA : 0 < q_sm w m) : q_shr m w sum = q_cn m (q_lf m w sum).toNat (q_b0 w (q_sm w m) sum) (q_r0 w (q_sm w m) sum) := if_neg (by omega)
theorem q_shr_sum (hA : 0 < q_sm w m) : q_sm (q_shr m w sum) m = sum := by
  rw [q_shr_eq hA, q_cn_sum hA _ _ _ (q_ok_zero hA), Int.toNat_of_nonneg (q_lf_in hA).1]
  unfold q_lf
  omega
theorem q_shr_each (hA : 0 < q_sm w m) (i : Nat) (hi : i < m) : q_shr m w sum i = sum * w i / q_sm w m ∨ (q_shr m w sum i = sum * w i / q_sm w m + 1 ∧ 0 < sum * w i % q_sm w m) := by
  rw [q_shr_eq hA, ← q_b0_eq hA, ← q_r0_eq hA]
  exact q_cn_each hA _ _ _ _ _ (q_ok_zero hA) (fun j hj => Or.inl ⟨rfl, rfl⟩) i hi
theorem q_shr_nn (hA : 0 ≤ q_sm w m) (hs : 0 ≤ sum) (hw : ∀ i : Nat, i < m → 0 ≤ w i) (i : Nat) (hi : i < m) : 0 ≤ q_shr m w sum i := by
  rcases Int.lt_or_le 0 (q_sm w m) with h | h
  · have h1 : 0 ≤ sum * w i / q_sm w m := Int.ediv_nonneg (Int.mul_nonneg hs (hw i hi)) hA
    rcases q_shr_each (sum := sum) h i hi with e | e <;> omega
  · unfold q_shr
    rw [if_pos h]
    unfold q_b0
    rw [if_pos (by omega)]
    exact Int.le_refl _
theorem q_shr_le (hA : 0 < q_sm w m) (hs : 0 ≤ sum) (hw : ∀ i : Nat, i < m → 0 ≤ w i) (i : Nat) (hi : i < m) : q_shr m w sum i ≤ sum := by
  have h := q_sm_one (n := m) (f := q_shr m w sum) (fun j hj => q_shr_nn (by omega) hs hw j hj) i hi
  rw [q_shr_sum hA] at h
  exact h
/-- nobody pays more than the weight, if the sum is no more than all weights -/
theorem q_shr_lew (hA : 0 < q_sm w m) (hs : 0 ≤ sum) (hle : sum ≤ q_sm w m) (hw : ∀ i : Nat, i < m → 0 ≤ w i) (i : Nat) (hi : i < m) : q_shr m w sum i ≤ w i := by
  have h1 : sum * w i ≤ q_sm w m * w i := Int.mul_le_mul_of_nonneg_right hle (hw i hi)
  have h2 := Int.mul_ediv_add_emod (sum * w i) (q_sm w m)
  have h3 : sum * w i / q_sm w m ≤ w i := Int.ediv_le_of_le_mul hA (by rw [Int.mul_comm (w i)]; exact h1)
  rcases q_shr_each (sum := sum) hA i hi with e | ⟨e, hp⟩
  · omega
  · rw [e]
    rcases Int.lt_or_le (sum * w i / q_sm w m) (w i) with h | h
    · omega
    · have : sum * w i / q_sm w m = w i := by omega
      rw [this] at h2
      omega
theorem q_shr_none (hA : q_sm w m ≤ 0) (hA0 : 0 ≤ q_sm w m) (i : Int) : q_shr m w sum i = 0 := by
  unfold q_shr
  rw [if_pos hA]
  exact if_pos (by omega)
end SH
/-- the other way to share: a remainder that was used is 0, none is given where nothing remained -/
theorem q_bst_pos {m : Nat} {r r' : Int → Int} (h : ∀ i : Nat, i < m → r' i = if 0 < r i then r i else 0) (hm : 0 < m) (hb : 0 < r (q_bst r m)) : q_bst r' m = q_bst r m := by
  have hin := q_bst_in r m hm
  obtain ⟨h1, h2⟩ := q_bst_max r m
  have hq : r' (q_bst r m) = r (q_bst r m) := by
    have := h (q_bst r m).toNat (by omega)
    rw [Int.toNat_of_nonneg hin.1] at this
    rw [this, if_pos hb]
  refine q_bst_of hin.1 hin.2 (fun i hi => ?_) (fun i hi => ?_)
  · rw [hq, h i hi]
    have := h1 i hi
    split <;> omega
  · rw [hq, h i (by omega)]
    have := h2 i hi
    split <;> omega
