/-! ===== the least part by which the manager has caught up ===== -/
def q_lk (K C G T r : Int) : Int := C * (G + T + r) - 100 * (T + K * r / 100)
def q_hd (K C G T r : Int) : Int := if 0 < q_lk K C G T r then (q_lk K C G T r + 100 * (K - C) - 1) / (100 * (K - C)) else 0
def q_cl (K C G T : Int) : Nat → Int
  | 0 => 1000000000000
  | r + 1 => if 100 * q_hd K C G T r + r ≤ q_cl K C G T r then 100 * q_hd K C G T r + r else q_cl K C G T r
def q_cu (K C G T : Int) : Int := q_cl K C G T 100
/-- he has caught up by y -/
def q_cd (K C G T y : Int) : Prop := q_lk K C G T y ≤ 0
section CU
variable {K C G T : Int}
theorem q_lk_split (h r : Int) : q_lk K C G T (100 * h + r) = q_lk K C G T r - h * (100 * (K - C)) := by
  unfold q_lk
  have e : K * (100 * h + r) / 100 = K * h + K * r / 100 := by
    rw [show K * (100 * h + r) = K * r + 100 * (K * h) by rw [Int.mul_add, ← Int.mul_assoc, Int.mul_comm K 100, Int.mul_assoc]; omega]
    rw [Int.add_mul_ediv_left _ _ (by decide)]
    omega
  rw [e]
  have e1 : C * (G + T + (100 * h + r)) = C * (G + T + r) + 100 * (C * h) := by
    rw [show G + T + (100 * h + r) = (G + T + r) + 100 * h by omega, Int.mul_add, ← Int.mul_assoc C 100, Int.mul_comm C 100, Int.mul_assoc]
  have e2 : h * (100 * (K - C)) = 100 * (K * h) - 100 * (C * h) := by
    rw [Int.mul_sub, Int.mul_sub, ← Int.mul_assoc, ← Int.mul_assoc, Int.mul_comm h 100, Int.mul_assoc, Int.mul_assoc, Int.mul_comm h K, Int.mul_comm h C]
  rw [e1, e2]
  omega
theorem q_hd_nn (hK : C < K) (r : Int) : 0 ≤ q_hd K C G T r := by
  unfold q_hd
  split
  · exact Int.ediv_nonneg (by omega) (by omega)
  · exact Int.le_refl _
/-- so many hundreds are needed beside r, no fewer do -/
theorem q_hd_iff (hK : C < K) (h r : Int) (hh : 0 ≤ h) : q_cd K C G T (100 * h + r) ↔ q_hd K C G T r ≤ h := by
  unfold q_cd
  rw [q_lk_split]
  unfold q_hd
  have hb : 0 < 100 * (K - C) := by omega
  split
  · rename_i hl
    rw [Int.ediv_le_iff_le_mul hb]
    omega
  · rename_i hl
    have : 0 ≤ h * (100 * (K - C)) := Int.mul_nonneg hh (by omega)
    omega
theorem q_cl_le (r : Nat) : ∀ n : Nat, r < n → q_cl K C G T n ≤ 100 * q_hd K C G T r + r
  | 0, h => by omega
  | n + 1, h => by
    rw [q_cl]
    by_cases e : r = n
    · subst e
      split <;> omega
    · have := q_cl_le r n (by omega)
      split <;> omega
theorem q_cl_of : ∀ n : Nat, q_cl K C G T n = 1000000000000 ∨ ∃ r : Nat, r < n ∧ q_cl K C G T n = 100 * q_hd K C G T r + r
  | 0 => Or.inl rfl
  | n + 1 => by
    rw [q_cl]
    split
    · exact Or.inr ⟨n, by omega, rfl⟩
    · rcases q_cl_of n with h | ⟨r, hr, h⟩
      · exact Or.inl h
      · exact Or.inr ⟨r, by omega, h⟩
theorem q_cl_bd (hK : C < K) : ∀ n : Nat, 0 ≤ q_cl K C G T n ∧ q_cl K C G T n ≤ 1000000000000
  | 0 => by rw [q_cl]; omega
  | n + 1 => by
    have h1 := q_cl_bd hK n
    have h2 := q_hd_nn (G := G) (T := T) hK n
    rw [q_cl]
    split <;> omega
theorem q_cu_nn (hK : C < K) : 0 ≤ q_cu K C G T := (q_cl_bd hK 100).1
theorem q_cu_le (hK : C < K) {y : Int} (hy : 0 ≤ y) (h : q_cd K C G T y) : q_cu K C G T ≤ y := by
  have e : y = 100 * (y / 100) + y % 100 := by omega
  have h2 := (q_hd_iff (K := K) (C := C) (G := G) (T := T) hK (y / 100) (y % 100) (by omega)).mp (by rw [← e]; exact h)
  have h3 := q_cl_le (K := K) (C := C) (G := G) (T := T) (y % 100).toNat 100 (by omega)
  rw [Int.toNat_of_nonneg (by omega)] at h3
  unfold q_cu
  omega
theorem q_cu_of (hK : C < K) : q_cu K C G T = 1000000000000 ∨ q_cd K C G T (q_cu K C G T) := by
  unfold q_cu
  rcases q_cl_of (K := K) (C := C) (G := G) (T := T) 100 with h | ⟨r, hr, h⟩
  · exact Or.inl h
  · refine Or.inr ?_
    rw [h]
    exact (q_hd_iff hK _ _ (q_hd_nn hK _)).mpr (Int.le_refl _)
/-- no part below y does: then y is the least, or more is needed -/
theorem q_cu_ge (hK : C < K) {y : Int} (hy : y ≤ 1000000000000) (h : ∀ x, 0 ≤ x → x < y → ¬ q_cd K C G T x) : y ≤ q_cu K C G T := by
  rcases q_cu_of (G := G) (T := T) hK with e | e
  · omega
  · rcases Int.lt_or_le (q_cu K C G T) y with h2 | h2
    · exact absurd e (h _ (q_cu_nn hK) h2)
    · exact h2
/-- too little: what it makes good at the most isn't enough -/
theorem q_cd_lo {y : Int} (h : q_cd K C G T y) : C * (G + T) - 100 * T ≤ (K - C) * y := by
  unfold q_cd q_lk at h
  have h1 : 100 * (K * y / 100) ≤ K * y := Int.mul_ediv_self_le (by decide)
  rw [show C * (G + T + y) = C * (G + T) + C * y from Int.mul_add _ _ _] at h
  rw [Int.sub_mul]
  omega
theorem q_cd_hi {y : Int} (h : C * (G + T) - 100 * T + 99 ≤ (K - C) * y) : q_cd K C G T y := by
  unfold q_cd q_lk
  have h1 : K * y - 99 ≤ 100 * (K * y / 100) := by omega
  rw [show C * (G + T + y) = C * (G + T) + C * y from Int.mul_add _ _ _]
  rw [Int.sub_mul] at h
  omega
end CU
/-- the third step: as much as is left, or as is needed -/
def q_f2 (tm : Int → Int) (G T left : Int) : Int := if tm 2 < tm 1 then (if q_cu (tm 1) (tm 2) G T ≤ left then q_cu (tm 1) (tm 2) G T else left) else 0
theorem q_f2_in {tm : Int → Int} {G T left : Int} (h : 0 ≤ left) : 0 ≤ q_f2 tm G T left ∧ q_f2 tm G T left ≤ left := by
  unfold q_f2
  split
  · rename_i hk
    have := q_cu_nn (G := G) (T := T) hk
    split <;> omega
  · omega
theorem q_f2_zero {tm : Int → Int} {G T : Int} : q_f2 tm G T 0 = 0 := by
  have := q_f2_in (tm := tm) (G := G) (T := T) (Int.le_refl 0)
  omega
def q_min (a b : Int) : Int := if b ≤ a then b else a
theorem q_min_le (a b : Int) : q_min a b ≤ a ∧ q_min a b ≤ b := by unfold q_min; split <;> omega
theorem q_min_nn {a b : Int} (h1 : 0 ≤ a) (h2 : 0 ≤ b) : 0 ≤ q_min a b := by unfold q_min; split <;> omega
theorem zminJ_eq {a b : Int} (h1 : -9223372036854775808 ≤ a) (h2 : a < 9223372036854775808) (h3 : -9223372036854775808 ≤ b) (h4 : b < 9223372036854775808) : zminJ a b = q_min a b := by
  unfold zminJ q_min
  rw [w64_of h1 h2, w64_of h3 h4]
  split <;> split <;> omega
def q_max (a b : Int) : Int := if a ≤ b then b else a
theorem zmaxJ_eq {a b : Int} (h1 : -9223372036854775808 ≤ a) (h2 : a < 9223372036854775808) (h3 : -9223372036854775808 ≤ b) (h4 : b < 9223372036854775808) : zmaxJ a b = q_max a b := by
  unfold zmaxJ q_max
  rw [w64_of h1 h2, w64_of h3 h4]
  split <;> split <;> omega
/-! how a sum fills a ladder: capital c, return p, given g, taken t -/
def q_s0 (c sum : Int) : Int := q_min sum c
def q_s1 (c p sum : Int) : Int := q_min (sum - q_s0 c sum) p
def q_s2 (tm : Int → Int) (c p g t sum : Int) : Int := q_f2 tm (g + q_s1 c p sum) t (sum - q_s0 c sum - q_s1 c p sum)
def q_s3 (tm : Int → Int) (c p g t sum : Int) : Int := sum - q_s0 c sum - q_s1 c p sum - q_s2 tm c p g t sum
def q_sM (tm : Int → Int) (c p g t sum : Int) : Int := tm 1 * q_s2 tm c p g t sum / 100 + tm 2 * q_s3 tm c p g t sum / 100
section FI
variable {tm : Int → Int} {c p g t sum : Int}
theorem q_st_in (hc : 0 ≤ c) (hp : 0 ≤ p) (hs : 0 ≤ sum) : 0 ≤ q_s0 c sum ∧ q_s0 c sum ≤ sum ∧ q_s0 c sum ≤ c ∧ 0 ≤ q_s1 c p sum ∧ q_s1 c p sum ≤ p ∧ 0 ≤ q_s2 tm c p g t sum ∧ 0 ≤ q_s3 tm c p g t sum ∧ q_s0 c sum + q_s1 c p sum + q_s2 tm c p g t sum + q_s3 tm c p g t sum = sum := by
  have h0 := q_min_le sum c
  have h1 := q_min_nn hs hc
  have h2 := q_min_le (sum - q_s0 c sum) p
  have h3 := q_min_nn (a := sum - q_s0 c sum) (b := p) (by unfold q_s0; omega) hp
  have h4 := q_f2_in (tm := tm) (G := g + q_s1 c p sum) (T := t) (left := sum - q_s0 c sum - q_s1 c p sum) (by unfold q_s1; omega)
  have e0 : q_min sum c = q_s0 c sum := rfl
  have e1 : q_min (sum - q_s0 c sum) p = q_s1 c p sum := rfl
  have e2 : q_f2 tm (g + q_s1 c p sum) t (sum - q_s0 c sum - q_s1 c p sum) = q_s2 tm c p g t sum := rfl
  have e3 : q_s3 tm c p g t sum = sum - q_s0 c sum - q_s1 c p sum - q_s2 tm c p g t sum := rfl
  rw [e0] at h0 h1
  rw [e1] at h2 h3
  rw [e2] at h4
  omega
theorem q_sM_in (h1 : 0 ≤ tm 1) (h2 : tm 1 ≤ 100) (h3 : 0 ≤ tm 2) (h4 : tm 2 ≤ 100) (hc : 0 ≤ c) (hp : 0 ≤ p) (hs : 0 ≤ sum) : 0 ≤ q_sM tm c p g t sum ∧ q_sM tm c p g t sum ≤ q_s2 tm c p g t sum + q_s3 tm c p g t sum := by
  have h := q_st_in (tm := tm) (c := c) (p := p) (g := g) (t := t) (sum := sum) hc hp hs
  have b1 : tm 1 * q_s2 tm c p g t sum ≤ 100 * q_s2 tm c p g t sum := Int.mul_le_mul_of_nonneg_right h2 (by omega)
  have b2 : tm 2 * q_s3 tm c p g t sum ≤ 100 * q_s3 tm c p g t sum := Int.mul_le_mul_of_nonneg_right h4 (by omega)
  have b3 : 0 ≤ tm 1 * q_s2 tm c p g t sum := Int.mul_nonneg h1 (by omega)
  have b4 : 0 ≤ tm 2 * q_s3 tm c p g t sum := Int.mul_nonneg h3 (by omega)
  unfold q_sM
  omega
/-- what comes to the manager, by what is behind two steps -/
def q_he (tm : Int → Int) (behind cu : Int) : Int := if 0 < behind then tm 1 * q_min behind cu / 100 + tm 2 * (behind - q_min behind cu) / 100 else 0
theorem q_sM_he (hc : 0 ≤ c) (hp : 0 ≤ p) (hs : 0 ≤ sum) : q_sM tm c p g t sum = q_he tm (sum - (c + p)) (if tm 2 < tm 1 then q_cu (tm 1) (tm 2) (g + p) t else 0) := by
  have h := q_st_in (tm := tm) (c := c) (p := p) (g := g) (t := t) (sum := sum) hc hp hs
  unfold q_he
  rcases Int.lt_or_le 0 (sum - (c + p)) with hb | hb
  · rw [if_pos hb]
    have e0 : q_s0 c sum = c := by unfold q_s0 q_min; rw [if_pos (by omega)]
    have e1 : q_s1 c p sum = p := by unfold q_s1 q_min; rw [e0, if_pos (by omega)]
    have e2 : q_s2 tm c p g t sum = q_min (sum - (c + p)) (if tm 2 < tm 1 then q_cu (tm 1) (tm 2) (g + p) t else 0) := by
      unfold q_s2 q_f2 q_min
      rw [e0, e1, show sum - c - p = sum - (c + p) by omega]
      split
      · rfl
      · rw [if_pos (by omega)]
    have e3 : q_s3 tm c p g t sum = sum - (c + p) - q_min (sum - (c + p)) (if tm 2 < tm 1 then q_cu (tm 1) (tm 2) (g + p) t else 0) := by
      unfold q_s3
      rw [e0, e1, e2]
      omega
    unfold q_sM
    rw [e2, e3]
  · rw [if_neg (by omega)]
    have hl : sum - q_s0 c sum - q_s1 c p sum = 0 := by
      unfold q_s1 q_min
      have : q_s0 c sum = if c ≤ sum then c else sum := rfl
      split <;> split at this <;> omega
    have e2 : q_s2 tm c p g t sum = 0 := by
      unfold q_s2
      rw [hl]
      exact q_f2_zero
    have e3 : q_s3 tm c p g t sum = 0 := by
      unfold q_s3
      rw [hl, e2]
      rfl
    unfold q_sM
    rw [e2, e3]
    simp
theorem q_he_mono {cu a b : Int} (h1 : 0 ≤ tm 1) (h3 : 0 ≤ tm 2) (hcu : 0 ≤ cu) (hab : a ≤ b) : q_he tm a cu ≤ q_he tm b cu := by
  unfold q_he
  split
  · rename_i ha
    rw [if_pos (by omega)]
    have m1 : q_min a cu ≤ q_min b cu := by unfold q_min; split <;> split <;> omega
    have m2 : a - q_min a cu ≤ b - q_min b cu := by unfold q_min; split <;> split <;> omega
    have p1 := Int.mul_le_mul_of_nonneg_left m1 h1
    have p2 := Int.mul_le_mul_of_nonneg_left m2 h3
    have d1 := Int.ediv_le_ediv (c := 100) (by decide) p1
    have d2 := Int.ediv_le_ediv (c := 100) (by decide) p2
    omega
  · split
    · rename_i hb
      have m1 : 0 ≤ q_min b cu := q_min_nn (by omega) hcu
      have m2 : 0 ≤ b - q_min b cu := by have := (q_min_le b cu).1; omega
      have p1 := Int.mul_nonneg h1 m1
      have p2 := Int.mul_nonneg h3 m2
      omega
    · exact Int.le_refl _
end FI
