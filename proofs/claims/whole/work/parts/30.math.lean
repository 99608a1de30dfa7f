/-! ===== the pure part: rows of numbers, sums, memory's cells ===== -/
def q_up (f : Int → Int) (k v : Int) : Int → Int := fun j => if j = k then v else f j
theorem q_up_at (f : Int → Int) (k v : Int) : q_up f k v k = v := if_pos rfl
theorem q_up_ne {f : Int → Int} {k v j : Int} (h : j ≠ k) : q_up f k v j = f j := if_neg h
theorem zUp_at (μ : ZMem) (c : Nat) (i v : Int) : zUp μ c i v c = q_up (μ c) i v := by
  funext j
  simp [zUp, q_up]
theorem zUp_ne {μ : ZMem} {c : Nat} {i v : Int} {c' : Nat} (h : c' ≠ c) : zUp μ c i v c' = μ c' := by
  funext j
  simp [zUp, h]
def q_sm (f : Int → Int) : Nat → Int
  | 0 => 0
  | n + 1 => q_sm f n + f n
theorem q_sm_congr {f g : Int → Int} : ∀ {n : Nat}, (∀ i : Nat, i < n → f i = g i) → q_sm f n = q_sm g n
  | 0, _ => rfl
  | n + 1, h => by
    rw [q_sm, q_sm, q_sm_congr (n := n) (fun i hi => h i (by omega)), h n (by omega)]
theorem q_sm_le {f g : Int → Int} : ∀ {n : Nat}, (∀ i : Nat, i < n → f i ≤ g i) → q_sm f n ≤ q_sm g n
  | 0, _ => Int.le_refl _
  | n + 1, h => by
    have h1 := q_sm_le (n := n) (fun i hi => h i (by omega))
    have h2 := h n (by omega)
    rw [q_sm, q_sm]
    omega
theorem q_sm_nonneg {f : Int → Int} : ∀ {n : Nat}, (∀ i : Nat, i < n → 0 ≤ f i) → 0 ≤ q_sm f n
  | 0, _ => Int.le_refl _
  | n + 1, h => by
    have h1 := q_sm_nonneg (n := n) (fun i hi => h i (by omega))
    have h2 := h n (by omega)
    rw [q_sm]
    omega
theorem q_sm_bd {f : Int → Int} {b : Int} : ∀ {n : Nat}, (∀ i : Nat, i < n → f i ≤ b) → q_sm f n ≤ n * b
  | 0, _ => by simp [q_sm]
  | n + 1, h => by
    have h1 := q_sm_bd (n := n) (fun i hi => h i (by omega))
    have h2 := h n (by omega)
    rw [q_sm, Int.natCast_add, Int.add_mul]
    omega
theorem q_sm_bd6 {f : Int → Int} {b : Int} {n : Nat} (hn : n ≤ 6) (hb : 0 ≤ b) (h : ∀ i : Nat, i < n → f i ≤ b) : q_sm f n ≤ 6 * b := by
  have h1 := q_sm_bd h
  have h2 : (n : Int) * b ≤ 6 * b := Int.mul_le_mul_of_nonneg_right (by omega) hb
  omega
theorem q_sm_zero {f : Int → Int} {n : Nat} (h : ∀ i : Nat, i < n → f i = 0) : q_sm f n = 0 := by
  rw [q_sm_congr (g := fun _ => 0) h]
  induction n with
  | zero => rfl
  | succ n ih => rw [q_sm, ih (fun i hi => h i (by omega))]; rfl
theorem q_sm_add (f g : Int → Int) : ∀ n : Nat, q_sm (fun i => f i + g i) n = q_sm f n + q_sm g n
  | 0 => rfl
  | n + 1 => by rw [q_sm, q_sm, q_sm, q_sm_add f g n]; omega
theorem q_sm_sub (f g : Int → Int) : ∀ n : Nat, q_sm (fun i => f i - g i) n = q_sm f n - q_sm g n
  | 0 => rfl
  | n + 1 => by rw [q_sm, q_sm, q_sm, q_sm_sub f g n]; omega
theorem q_sm_mul (c : Int) (f : Int → Int) : ∀ n : Nat, q_sm (fun i => c * f i) n = c * q_sm f n
  | 0 => by simp [q_sm]
  | n + 1 => by rw [q_sm, q_sm, q_sm_mul c f n, Int.mul_add]
theorem q_sm_up {f : Int → Int} {k v : Int} : ∀ {n : Nat}, 0 ≤ k → k < n → q_sm (q_up f k v) n = q_sm f n + (v - f k)
  | 0, h0, h1 => by omega
  | n + 1, h0, h1 => by
    by_cases hk : k = n
    · subst hk
      rw [q_sm, q_sm, q_up_at, q_sm_congr (g := f) (fun i hi => q_up_ne (by omega))]
      omega
    · rw [q_sm, q_sm, q_sm_up (n := n) h0 (by omega), q_up_ne (by omega)]
      omega
theorem q_sm_up0 {f : Int → Int} {k v : Int} {n : Nat} (h : k < 0 ∨ (n : Int) ≤ k) : q_sm (q_up f k v) n = q_sm f n :=
  q_sm_congr (fun i hi => q_up_ne (by omega))
theorem q_sm_one {f : Int → Int} : ∀ {n : Nat}, (∀ i : Nat, i < n → 0 ≤ f i) → ∀ i : Nat, i < n → f i ≤ q_sm f n
  | 0, _, i, hi => by omega
  | n + 1, h, i, hi => by
    have h0 := q_sm_nonneg (n := n) (fun i hi => h i (by omega))
    have h2 := h n (by omega)
    rw [q_sm]
    by_cases e : i = n
    · subst e
      omega
    · have := q_sm_one (n := n) (fun i hi => h i (by omega)) i (by omega)
      omega
theorem q_sm_pos {f : Int → Int} : ∀ {n : Nat}, 0 < q_sm f n → ∃ i : Nat, i < n ∧ 0 < f i
  | 0, h => by simp [q_sm] at h
  | n + 1, h => by
    rw [q_sm] at h
    by_cases e : 0 < f n
    · exact ⟨n, by omega, e⟩
    · obtain ⟨i, h1, h2⟩ := q_sm_pos (n := n) (f := f) (by omega)
      exact ⟨i, by omega, h2⟩
theorem q_mb {a b A B : Int} (ha : 0 ≤ a) (hA : a ≤ A) (hb : 0 ≤ b) (hB : b ≤ B) : 0 ≤ a * b ∧ a * b ≤ A * B :=
  ⟨Int.mul_nonneg ha hb, Int.mul_le_mul hA hB hb (by omega)⟩
theorem q_dv {x d : Int} (h0 : 0 ≤ x) (h1 : x < 9223372036854775808) (d0 : 0 ≤ d) (d1 : d < 9223372036854775808) : (w64 x).tdiv (w64 d) = x / d := by
  rw [w64_of (by omega) h1, w64_of (by omega) d1, Int.tdiv_eq_ediv_of_nonneg h0]
theorem q_md {x d : Int} (h0 : 0 ≤ x) (h1 : x < 9223372036854775808) (d0 : 0 ≤ d) (d1 : d < 9223372036854775808) : (w64 x).tmod (w64 d) = x % d := by
  rw [w64_of (by omega) h1, w64_of (by omega) d1, Int.tmod_eq_emod_of_nonneg h0]
theorem q_dv32 {x d : Int} (h0 : 0 ≤ x) (h1 : x < 2147483648) (d0 : 0 ≤ d) (d1 : d < 2147483648) : (w32 x).tdiv (w32 d) = x / d := by
  rw [w32_of (by omega) h1, w32_of (by omega) d1, Int.tdiv_eq_ediv_of_nonneg h0]
theorem q_md32 {x d : Int} (h0 : 0 ≤ x) (h1 : x < 2147483648) (d0 : 0 ≤ d) (d1 : d < 2147483648) : (w32 x).tmod (w32 d) = x % d := by
  rw [w32_of (by omega) h1, w32_of (by omega) d1, Int.tmod_eq_emod_of_nonneg h0]
theorem zRd_ok {μ : ZMem} {c n : Nat} {i : Int} {K : Int → Option ZRes} (h0 : 0 ≤ i) (h1 : i < n) (h2 : i < 2147483648) : zRd μ c n i K = K (μ c i) := by
  unfold zRd
  rw [w32_of (by omega) h2, if_pos ⟨h0, h1⟩]
theorem zWr_ok {μ : ZMem} {c n : Nat} {i v : Int} {K : ZMem → Option ZRes} (h0 : 0 ≤ i) (h1 : i < n) (h2 : i < 2147483648) : zWr μ c n i v K = K (zUp μ c i v) := by
  unfold zWr
  rw [w32_of (by omega) h2, if_pos ⟨h0, h1⟩]
theorem zLet_eq {α : Type} (x : α) (K : α → Option ZRes) : zLet x K = K x := Eq.trans rfl rfl
theorem zC_V {μ : ZMem} {K : ZMem → Option ZRes} {X : String → ZMem → Option ZRes} : zC (some (.inr none, μ)) (zkV K) X = K μ := Eq.trans rfl rfl
theorem zC_I {a : Int} {μ : ZMem} {K : Int → ZMem → Option ZRes} {X : String → ZMem → Option ZRes} : zC (some (.inr (some (zI a)), μ)) (zkI K) X = K a μ := Eq.trans rfl rfl
theorem zC_J {a : Int} {μ : ZMem} {K : Int → ZMem → Option ZRes} {X : String → ZMem → Option ZRes} : zC (some (.inr (some (zJ a)), μ)) (zkJ K) X = K a μ := Eq.trans rfl rfl
theorem zC_D {a : UInt64} {μ : ZMem} {K : UInt64 → ZMem → Option ZRes} {X : String → ZMem → Option ZRes} : zC (some (.inr (some (zD a)), μ)) (zkD K) X = K a μ := Eq.trans rfl rfl
theorem zCm_V {pl : List Nat} {μ ν : ZMem} {K : ZMem → Option ZRes} {X : String → ZMem → Option ZRes} : zCm pl μ (some (.inr none, ν)) (zkV K) X = K (zMg pl μ ν) := Eq.trans rfl rfl
theorem zCm_I {a : Int} {pl : List Nat} {μ ν : ZMem} {K : Int → ZMem → Option ZRes} {X : String → ZMem → Option ZRes} : zCm pl μ (some (.inr (some (zI a)), ν)) (zkI K) X = K a (zMg pl μ ν) := Eq.trans rfl rfl
theorem zCm_J {a : Int} {pl : List Nat} {μ ν : ZMem} {K : Int → ZMem → Option ZRes} {X : String → ZMem → Option ZRes} : zCm pl μ (some (.inr (some (zJ a)), ν)) (zkJ K) X = K a (zMg pl μ ν) := Eq.trans rfl rfl
theorem zCm_D {a : UInt64} {pl : List Nat} {μ ν : ZMem} {K : UInt64 → ZMem → Option ZRes} {X : String → ZMem → Option ZRes} : zCm pl μ (some (.inr (some (zD a)), ν)) (zkD K) X = K a (zMg pl μ ν) := Eq.trans rfl rfl
/-! loops -/
theorem q_loop {α R : Type} (L : Nat → α → R) (P : Nat → α → Prop) (hs : ∀ n k a, P (k + 1) a → ∃ a', L (n + 1) a = L n a' ∧ P k a') : ∀ (k n : Nat) (a : α), P k a → k ≤ n → ∃ a', L n a = L (n - k) a' ∧ P 0 a' := by
  intro k
  induction k with
  | zero => intro n a h _; exact ⟨a, rfl, h⟩
  | succ k ih =>
    intro n a h hn
    obtain ⟨n, rfl⟩ : ∃ j, n = j + 1 := ⟨n - 1, by omega⟩
    obtain ⟨a1, e1, h1⟩ := hs n k a h
    obtain ⟨a2, e2, h2⟩ := ih n a1 h1 (by omega)
    refine ⟨a2, ?_, h2⟩
    rw [e1, e2]
    congr 1
    omega
/-- a sum in a loop -/
theorem q_acc {R : Type} {L : Nat → Int → Int → R} {f : Int → Int} {m : Nat} {K : Int → R} (hs : ∀ (n : Nat) (a : Int) (j : Nat), j < m → L (n + 1) a j = L n (a + f j) (j + 1)) (hd : ∀ (n : Nat) (a : Int), L (n + 1) a m = K a) {n : Nat} (hn : m < n) : L n 0 0 = K (q_sm f m) := by
  have key : ∀ (k n j : Nat), j + k = m → k < n → L n (q_sm f j) j = K (q_sm f m) := by
    intro k
    induction k with
    | zero =>
      intro n j hj hn
      obtain ⟨n, rfl⟩ : ∃ i, n = i + 1 := ⟨n - 1, by omega⟩
      obtain rfl : j = m := by omega
      exact hd n _
    | succ k ih =>
      intro n j hj hn
      obtain ⟨n, rfl⟩ : ∃ i, n = i + 1 := ⟨n - 1, by omega⟩
      rw [hs n _ j (by omega)]
      exact ih n (j + 1) (by omega) (by omega)
  exact key m n 0 (by omega) hn
/-- a cell's first m numbers are others -/
def q_fi (μ : ZMem) (c : Nat) (g : Int → Int) (m : Int) : ZMem := fun c' i => if c' = c ∧ 0 ≤ i ∧ i < m then g i else μ c' i
theorem q_fi_zero (μ : ZMem) (c : Nat) (g : Int → Int) : q_fi μ c g 0 = μ := by
  funext c' i
  unfold q_fi
  rw [if_neg (by omega)]
theorem q_fi_succ (μ : ZMem) (c : Nat) (g : Int → Int) (j : Nat) : zUp (q_fi μ c g j) c j (g j) = q_fi μ c g (j + 1) := by
  funext c' i
  unfold zUp q_fi
  by_cases h : c' = c ∧ i = j
  · rw [if_pos h, if_pos ⟨h.1, by omega, by omega⟩, h.2]
  · rw [if_neg h]
    by_cases h2 : c' = c ∧ 0 ≤ i ∧ i < j
    · rw [if_pos h2, if_pos ⟨h2.1, h2.2.1, by omega⟩]
    · rw [if_neg h2, if_neg (by omega)]
theorem q_fi_in {μ : ZMem} {c : Nat} {g : Int → Int} {m i : Int} (h0 : 0 ≤ i) (h1 : i < m) : q_fi μ c g m c i = g i := if_pos ⟨rfl, h0, h1⟩
theorem q_fi_out {μ : ZMem} {c : Nat} {g : Int → Int} {m i : Int} (h : i < 0 ∨ m ≤ i) : q_fi μ c g m c i = μ c i := if_neg (by omega)
theorem q_fi_ne {μ : ZMem} {c c' : Nat} {g : Int → Int} {m : Int} (h : c' ≠ c) : q_fi μ c g m c' = μ c' := by
  funext i
  exact if_neg (by omega)
/-- a cell is written place by place -/
theorem q_map {R : Type} {L : Nat → Int → ZMem → R} {c : Nat} {g : Int → Int} {m : Nat} {K : ZMem → R} {μ : ZMem} (hs : ∀ (n j : Nat), j < m → L (n + 1) j (q_fi μ c g j) = L n (j + 1) (zUp (q_fi μ c g j) c j (g j))) (hd : ∀ n : Nat, L (n + 1) m (q_fi μ c g m) = K (q_fi μ c g m)) {n : Nat} (hn : m < n) : L n 0 μ = K (q_fi μ c g m) := by
  have key : ∀ (k n j : Nat), j + k = m → k < n → L n j (q_fi μ c g j) = K (q_fi μ c g m) := by
    intro k
    induction k with
    | zero =>
      intro n j hj hn
      obtain ⟨n, rfl⟩ : ∃ i, n = i + 1 := ⟨n - 1, by omega⟩
      obtain rfl : j = m := by omega
      exact hd n
    | succ k ih =>
      intro n j hj hn
      obtain ⟨n, rfl⟩ : ∃ i, n = i + 1 := ⟨n - 1, by omega⟩
      rw [hs n j (by omega), q_fi_succ]
      exact ih n (j + 1) (by omega) (by omega)
  have h := key m n 0 (by omega) hn
  have e : q_fi μ c g ((0 : Nat) : Int) = μ := q_fi_zero μ c g
  rw [e] at h
  exact h
theorem zN_gt {m : Nat} (h : m ≤ 999999) : m < zN := Nat.lt_of_le_of_lt h (Nat.lt_of_lt_of_le (Nat.le_of_ble_eq_true rfl : 999999 < 1000000) (Nat.le_refl _))
