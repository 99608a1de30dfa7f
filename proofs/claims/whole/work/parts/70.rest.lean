/-! ===== both at rest; what a question may change ===== -/
abbrev plN : List Nat := [13, 14, 15, 16, 17, 18, 19, 20, 21, 22, 23, 24, 25, 26, 27, 28, 29, 30, 31]
/-- the class's fund, journal and state, at rest -/
def c_at (m dl a : Nat) (tm ex pr J : Int → Int) (κ : ZMem) : Prop :=
  (κ 3 3 = m ∧ κ 3 4 = dl ∧ (κ 3 5 = 0 ∨ κ 3 5 = 1) ∧ (∀ k, 0 ≤ k → k < 7 → κ 4 k = tm k) ∧ (∀ i : Int, 0 ≤ i → i < m → κ 5 i = pr i) ∧ (∀ d, 0 ≤ d → d < 6 → κ 6 d = ex d)) ∧
  (κ 11 1 = a ∧ j_rw J a (κ 12) ∧ (∀ k : Nat, k < a → κ 12 (k * 7 + 5) = q_jt tm J k (q_run m tm ex pr J k) ∧ κ 12 (k * 7 + 6) = q_jh tm J k (q_run m tm ex pr J k))) ∧
  s_T m dl tm ex (q_run m tm ex pr J a) (zVw plN κ) ∧ κ 32 2 = 0
def c_fr (κ κ' : ZMem) : Prop := (∀ c, c < 7 ∨ (11 ≤ c ∧ c < 19) ∨ (20 ≤ c ∧ c < 26) ∨ (29 ≤ c ∧ c < 32) ∨ 109 ≤ c → κ' c = κ c) ∧ κ' 32 2 = κ 32 2
theorem c_fr.rf (κ : ZMem) : c_fr κ κ := ⟨fun _ _ => rfl, rfl⟩
theorem c_fr.tr {a b c : ZMem} (h1 : c_fr a b) (h2 : c_fr b c) : c_fr a c := ⟨fun x hx => (h2.1 x hx).trans (h1.1 x hx), h2.2.trans h1.2⟩
theorem c_fr.of {κ κ' : ZMem} (h : ∀ c, c < 7 ∨ (11 ≤ c ∧ c < 19) ∨ (20 ≤ c ∧ c < 26) ∨ (29 ≤ c ∧ c < 33) ∨ 109 ≤ c → κ' c = κ c) : c_fr κ κ' := ⟨fun c hc => h c (by omega), by rw [h 32 (by decide)]⟩
theorem s_T.vw {m dl : Nat} {tm ex : Int → Int} {σ : QS} {κ κ' : ZMem} (h : s_T m dl tm ex σ (zVw plN κ)) (e : ∀ c, (13 ≤ c ∧ c < 19) ∨ (20 ≤ c ∧ c < 26) ∨ (29 ≤ c ∧ c < 32) → κ' c = κ c) : s_T m dl tm ex σ (zVw plN κ') := by
  obtain ⟨⟨hb, hr⟩, h2, hg, hn, hN, hF⟩ := h
  have z : ∀ j, j < 6 ∨ (7 ≤ j ∧ j < 13) ∨ (16 ≤ j ∧ j < 19) → zVw plN κ' j = zVw plN κ j := fun j hj => by
    have e1 : zRho plN j = j + 13 := by
      rcases Nat.lt_or_ge j 19 with h1 | h1
      · have : ∀ j : Nat, j < 19 → zRho plN j = j + 13 := by decide
        exact this j h1
      · omega
    show κ' (zRho plN j) = κ (zRho plN j)
    rw [e1]
    exact e _ (by omega)
  exact ⟨⟨hb.vw (z 1 (by decide)) (z 2 (by decide)) (z 3 (by decide)) (z 4 (by decide)) (z 5 (by decide)), hr.vw (z 7 (by decide)) (z 8 (by decide)) (z 9 (by decide)) (z 10 (by decide)) (z 12 (by decide))⟩, by rw [z 0 (by decide)]; exact h2, fun i i0 i1 => by rw [z 11 (by decide)]; exact hg i i0 i1, fun i q i0 i1 q0 q1 => by rw [z 17 (by decide)]; exact hn i q i0 i1 q0 q1, fun q q0 q1 => by rw [z 17 (by decide)]; exact hN q q0 q1, fun q q0 q1 => by rw [z 18 (by decide)]; exact hF q q0 q1⟩
theorem c_at.fr {m dl a : Nat} {tm ex pr J : Int → Int} {κ κ' : ZMem} (h : c_at m dl a tm ex pr J κ) (f : c_fr κ κ') : c_at m dl a tm ex pr J κ' := by
  obtain ⟨h1, h2, h3, h4⟩ := h
  refine ⟨?_, ?_, h3.vw (fun c hc => f.1 c (by omega)), f.2.trans h4⟩
  · rw [f.1 3 (by decide), f.1 4 (by decide), f.1 5 (by decide), f.1 6 (by decide)]
    exact h1
  · rw [f.1 11 (by decide), f.1 12 (by decide)]
    exact h2
def m_fr (μ μ' : ZMem) : Prop := (∀ c, c = 1 ∨ c = 2 ∨ c = 3 ∨ c = 4 ∨ c = 8 ∨ c = 14 ∨ c = 15 → μ' c = μ c) ∧ (∀ k, k = 5 ∨ k = 6 ∨ k = 11 ∨ k = 19 ∨ k = 21 ∨ k = 24 → μ' 0 k = μ 0 k)
theorem m_fr.rf (μ : ZMem) : m_fr μ μ := ⟨fun _ _ => rfl, fun _ _ => rfl⟩
theorem m_fr.tr {a b c : ZMem} (h1 : m_fr a b) (h2 : m_fr b c) : m_fr a c := ⟨fun x hx => (h2.1 x hx).trans (h1.1 x hx), fun k hk => (h2.2 k hk).trans (h1.2 k hk)⟩
theorem m_fr.up0 (μ : ZMem) (y : Int) : m_fr μ (zUp μ 0 0 y) := ⟨fun c hc => zUp_ne (by omega), fun k hk => by rw [zUp_at, q_up_ne (by omega)]⟩
theorem m_kp.fr {μ μ' : ZMem} (h : m_kp μ μ') : m_fr μ μ' := ⟨fun c hc => h.1 c (by omega) (by omega) (by omega) (by omega) (by omega) (by omega) (by omega) (by omega) (by omega) (by omega), fun k hk => h.2 k (by omega) (by omega) (by omega)⟩
/-- what does not reach the fund, the rows and the journal -/
theorem m_at.cong {m dl a : Nat} {μ μ' : ZMem} (h : m_at m dl a μ) (e : ∀ c, 2 ≤ c → c ≤ 10 → μ' c = μ c) (e0 : ∀ k, k = 5 ∨ k = 6 ∨ k = 11 ∨ k = 14 → μ' 0 k = μ 0 k) : m_at m dl a μ' := by
  unfold m_at m_cf
  rw [e 2 (by decide) (by decide), e 3 (by decide) (by decide), e 4 (by decide) (by decide), e 5 (by decide) (by decide), e 6 (by decide) (by decide), e 7 (by decide) (by decide), e 8 (by decide) (by decide), e 9 (by decide) (by decide), e 10 (by decide) (by decide), e0 5 (by decide), e0 6 (by decide), e0 11 (by decide), e0 14 (by decide)]
  exact h
theorem m_at.up0 {m dl a : Nat} {μ : ZMem} (h : m_at m dl a μ) (y : Int) : m_at m dl a (zUp μ 0 0 y) := h.cong (fun c _ _ => zUp_ne (by omega)) (fun k hk => by rw [zUp_at, q_up_ne (by omega)])
def q_i32 (x : Int) : Prop := -2147483648 ≤ x ∧ x < 2147483648
def zXl : List (String × Int) → String → Option Int
  | [], _ => none
  | q :: t, E => if E = q.1 then some q.2 else zXl t E
theorem zXh_hit {E : String} {n : Int} : ∀ {cs : List (String × Int)}, zXl cs E = some n → ∀ ν, zXh cs E ν = some (.inr (some (zI n)), ν)
  | [], h, _ => by cases h
  | q :: t, h, ν => by
    unfold zXl at h
    unfold zXh
    by_cases e : E = q.1
    · rw [if_pos e] at h ⊢
      cases h
      rfl
    · rw [if_neg e] at h ⊢
      exact zXh_hit h ν
/-- the class's answer and the reference's: the same, or the exception that the reference's number tells -/
def z_ag (cs : List (String × Int)) (r : ZOut) (v : ZV) (th : Int) : Prop := (r = .inr (some v) ∧ th = 0) ∨ (∃ E n, r = .inl E ∧ th = n ∧ (1 ≤ n ∧ n ≤ 4) ∧ ∀ ν, zXh cs E ν = some (.inr (some (zI n)), ν))
/-- a question: both answer alike, and all is as it was -/
def z_face (cs : List (String × Int)) (m dl a : Nat) (κ μ : ZMem) (Fc Fm : Option ZRes) : Prop := ∃ r κ' v μ', Fc = some (r, κ') ∧ Fm = some (.inr (some v), μ') ∧ c_fr κ κ' ∧ m_fr μ μ' ∧ m_at m dl a μ' ∧ z_ag cs r v (μ' 0 0)
abbrev eIAE : String := "java/lang/IllegalArgumentException"
abbrev eNSE : String := "java/util/NoSuchElementException"
abbrev eIOB : String := "java/lang/IndexOutOfBoundsException"
abbrev eISE : String := "java/lang/IllegalStateException"
abbrev eUOE : String := "java/lang/UnsupportedOperationException"
theorem z_face.ok {cs : List (String × Int)} {m dl a : Nat} {κ μ κ' μ' : ZMem} {Fc Fm : Option ZRes} {v : ZV} (e1 : Fc = some (.inr (some v), κ')) (e2 : Fm = some (.inr (some v), μ')) (h1 : c_fr κ κ') (h2 : m_fr μ μ') (h3 : m_at m dl a μ') (h4 : μ' 0 0 = 0) : z_face cs m dl a κ μ Fc Fm := ⟨_, _, _, _, e1, e2, h1, h2, h3, Or.inl ⟨rfl, h4⟩⟩
theorem z_face.ok0 {cs : List (String × Int)} {m dl a : Nat} {κ μ κ' : ZMem} {Fc Fm : Option ZRes} {v : ZV} (M : m_at m dl a μ) (e1 : Fc = some (.inr (some v), κ')) (e2 : Fm = some (.inr (some v), zUp μ 0 0 0)) (h1 : c_fr κ κ') : z_face cs m dl a κ μ Fc Fm := z_face.ok e1 e2 h1 (m_fr.up0 μ 0) (M.up0 0) (by rw [zUp_at, q_up_at])
theorem z_face.th {cs : List (String × Int)} {m dl a : Nat} {κ μ : ZMem} {Fc Fm : Option ZRes} {v : ZV} {E : String} {n : Int} (M : m_at m dl a μ) (e1 : Fc = some (.inl E, κ)) (e2 : Fm = some (.inr (some v), zUp μ 0 0 n)) (hn : 1 ≤ n ∧ n ≤ 4) (hx : zXl cs E = some n) : z_face cs m dl a κ μ Fc Fm := ⟨_, _, _, _, e1, e2, c_fr.rf κ, m_fr.up0 μ n, M.up0 n, Or.inr ⟨E, n, rfl, by rw [zUp_at, q_up_at], hn, zXh_hit hx⟩⟩
/-- what at rest means for the reference's row -/
theorem m_at.row {m dl a : Nat} {μ : ZMem} (h : m_at m dl a μ) : q_fu m dl (μ 2) (μ 4) (μ 3) ∧ μ 0 5 = m ∧ μ 0 6 = dl ∧ μ 0 11 = a ∧ a ≤ 60 ∧ μ 5 = (q_run m (μ 2) (μ 4) (μ 3) (μ 8) a).1 ∧ μ 6 = (q_run m (μ 2) (μ 4) (μ 3) (μ 8) a).2.1 ∧ μ 7 = (q_run m (μ 2) (μ 4) (μ 3) (μ 8) a).2.2.1 ∧ q_inv m dl (6 * a + 2 * μ 5 90) (μ 5) ∧ q_z 1206 (μ 6) ∧ q_z 1206 (μ 7) := by
  obtain ⟨cf, h11, hj, hs, -⟩ := h
  obtain ⟨-, q2, q3, q4⟩ := q_pair hs
  obtain ⟨i1, i2⟩ := q_run_inv cf.2.2.1 hj a (Nat.le_refl _)
  exact ⟨cf.2.2.1, cf.1, cf.2.1, h11, hj.1, q2, q3, q4, by rw [q2]; exact i1, by rw [q3]; exact i2.1, by rw [q4]; exact i2.2⟩
theorem z_isIn {x lo hi : Int} {μ : ZMem} (h1 : -9223372036854775808 ≤ x) (h2 : x < 9223372036854775808) (h3 : -9223372036854775808 ≤ lo) (h4 : lo < 9223372036854775808) (h5 : -9223372036854775808 ≤ hi) (h6 : hi < 9223372036854775808) : F_Model_isIn x lo hi μ = some (.inr (some (zI (if lo ≤ x ∧ x ≤ hi then 1 else 0))), μ) := by
  unfold F_Model_isIn
  rw [w64_of h1 h2, w64_of h3 h4, w64_of h5 h6]
  by_cases h : lo ≤ x
  · rw [if_neg (by omega)]
    by_cases h' : x ≤ hi
    · rw [if_neg (by omega), if_pos ⟨h, h'⟩]
    · rw [if_pos (by omega), if_neg (fun q => h' q.2)]
  · rw [if_pos (by omega), if_neg (fun q => h q.1)]
theorem z_isInY {x lo hi : Int} {μ : ZMem} (h : lo ≤ x) (h' : x ≤ hi) (h3 : -9223372036854775808 ≤ lo) (h6 : hi < 9223372036854775808) : F_Model_isIn x lo hi μ = some (.inr (some (zI 1)), μ) := by
  rw [z_isIn (by omega) (by omega) h3 (by omega) (by omega) h6, if_pos ⟨h, h'⟩]
theorem z_isInN {x lo hi : Int} {μ : ZMem} (h : x < lo ∨ hi < x) (h1 : -9223372036854775808 ≤ x) (h2 : x < 9223372036854775808) (h3 : -9223372036854775808 ≤ lo) (h4 : lo < 9223372036854775808) (h5 : -9223372036854775808 ≤ hi) (h6 : hi < 9223372036854775808) : F_Model_isIn x lo hi μ = some (.inr (some (zI 0)), μ) := by
  rw [z_isIn h1 h2 h3 h4 h5 h6, if_neg (by omega)]
section FA
variable {m dl a : Nat} {κ μ : ZMem}
/-- both at rest, alike -/
abbrev z_rest (m dl a : Nat) (κ μ : ZMem) : Prop := m_at m dl a μ ∧ c_at m dl a (μ 2) (μ 4) (μ 3) (μ 8) κ
theorem face_term {x : Int} (h : z_rest m dl a κ μ) (hx : q_i32 x) : z_face [(eNSE, 1)] m dl a κ μ (F_Ledger_term x κ) (F_Model_term x μ) := by
  obtain ⟨M, C⟩ := h
  obtain ⟨x1, x2⟩ := hx
  have ht := C.1.2.2.2.1
  by_cases hx : 0 ≤ x ∧ x ≤ 6
  · obtain ⟨y0, y1⟩ := hx
    have e := ht x y0 (by omega)
    refine z_face.ok0 (v := zI (μ 2 x)) M ?_ ?_ (c_fr.rf κ)
    · unfold F_Ledger_term
      simp (disch := omega) only [Int.add_zero, Int.mul_zero, Int.reduceMul, Int.reduceAdd, Int.mul_one, Int.tdiv_eq_ediv_of_nonneg, Int.tmod_eq_emod_of_nonneg, ↓reduceIte, ↓zLet_eq, ↓zRd_ok, ↓zWr_ok, ↓zC_V, ↓zC_I, ↓zC_J, zUp_at, zUp_ne, q_up_at, q_up_ne, w32_of, w64_of, q_le_T, q_le_F, q_lt_T, q_lt_F, q_eq_T, q_eq_F, true_or, or_true, or_false, false_or, false_and, and_false, e]
    · unfold F_Model_term J_Model_term_18
      simp (disch := omega) only [Int.add_zero, Int.mul_zero, Int.reduceMul, Int.reduceAdd, Int.mul_one, Int.tdiv_eq_ediv_of_nonneg, Int.tmod_eq_emod_of_nonneg, ↓reduceIte, ↓zLet_eq, ↓zRd_ok, ↓zWr_ok, ↓zC_V, ↓zC_I, ↓zC_J, zUp_at, zUp_ne, q_up_at, q_up_ne, w32_of, w64_of, q_le_T, q_le_F, q_lt_T, q_lt_F, q_eq_T, q_eq_F, true_or, or_true, or_false, false_or, false_and, and_false, z_isInY]
  · refine z_face.th (v := zI 0) (E := eNSE) (n := 1) M ?_ ?_ (by decide) (by decide +kernel)
    · unfold F_Ledger_term J_Ledger_term_10
      by_cases h0 : x < 0
      · simp (disch := omega) only [Int.add_zero, Int.mul_zero, Int.reduceMul, Int.reduceAdd, Int.mul_one, Int.tdiv_eq_ediv_of_nonneg, Int.tmod_eq_emod_of_nonneg, ↓reduceIte, ↓zLet_eq, ↓zRd_ok, ↓zWr_ok, ↓zC_V, ↓zC_I, ↓zC_J, zUp_at, zUp_ne, q_up_at, q_up_ne, w32_of, w64_of, q_le_T, q_le_F, q_lt_T, q_lt_F, q_eq_T, q_eq_F, true_or, or_true, or_false, false_or, false_and, and_false]
      · simp (disch := omega) only [Int.add_zero, Int.mul_zero, Int.reduceMul, Int.reduceAdd, Int.mul_one, Int.tdiv_eq_ediv_of_nonneg, Int.tmod_eq_emod_of_nonneg, ↓reduceIte, ↓zLet_eq, ↓zRd_ok, ↓zWr_ok, ↓zC_V, ↓zC_I, ↓zC_J, zUp_at, zUp_ne, q_up_at, q_up_ne, w32_of, w64_of, q_le_T, q_le_F, q_lt_T, q_lt_F, q_eq_T, q_eq_F, true_or, or_true, or_false, false_or, false_and, and_false]
    · unfold F_Model_term J_Model_term_18
      simp (disch := omega) only [Int.add_zero, Int.mul_zero, Int.reduceMul, Int.reduceAdd, Int.mul_one, Int.tdiv_eq_ediv_of_nonneg, Int.tmod_eq_emod_of_nonneg, ↓reduceIte, ↓zLet_eq, ↓zRd_ok, ↓zWr_ok, ↓zC_V, ↓zC_I, ↓zC_J, zUp_at, zUp_ne, q_up_at, q_up_ne, w32_of, w64_of, q_le_T, q_le_F, q_lt_T, q_lt_F, q_eq_T, q_eq_F, true_or, or_true, or_false, false_or, false_and, and_false, z_isInN]
theorem face_manager {x : Int} (h : z_rest m dl a κ μ) (hx : q_i32 x) : z_face [(eNSE, 1)] m dl a κ μ (F_Ledger_manager x κ) (F_Model_manager x μ) := by
  obtain ⟨M, C⟩ := h
  obtain ⟨x1, x2⟩ := hx
  obtain ⟨hf, h5, h6, h11, ha, q2, q3, q4, hi, -⟩ := M.row
  have hb := C.2.2.1.1.1
  rw [← q2] at hb
  by_cases hx : 0 ≤ x ∧ x ≤ 3
  · obtain ⟨y0, y1⟩ := hx
    have e : κ 18 x = μ 5 (86 + x) := hb.2.2.2.2.1 x y0 (by omega)
    refine z_face.ok0 (v := zJ (μ 5 (86 + x))) M ?_ ?_ (c_fr.rf κ)
    · unfold F_Ledger_manager
      simp (disch := omega) only [Int.add_zero, Int.mul_zero, Int.reduceMul, Int.reduceAdd, Int.mul_one, Int.tdiv_eq_ediv_of_nonneg, Int.tmod_eq_emod_of_nonneg, ↓reduceIte, ↓zLet_eq, ↓zRd_ok, ↓zWr_ok, ↓zC_V, ↓zC_I, ↓zC_J, zUp_at, zUp_ne, q_up_at, q_up_ne, w32_of, w64_of, q_le_T, q_le_F, q_lt_T, q_lt_F, q_eq_T, q_eq_F, true_or, or_true, or_false, false_or, false_and, and_false, e]
    · unfold F_Model_manager J_Model_manager_18
      simp (disch := omega) only [Int.add_zero, Int.mul_zero, Int.reduceMul, Int.reduceAdd, Int.mul_one, Int.tdiv_eq_ediv_of_nonneg, Int.tmod_eq_emod_of_nonneg, ↓reduceIte, ↓zLet_eq, ↓zRd_ok, ↓zWr_ok, ↓zC_V, ↓zC_I, ↓zC_J, zUp_at, zUp_ne, q_up_at, q_up_ne, w32_of, w64_of, q_le_T, q_le_F, q_lt_T, q_lt_F, q_eq_T, q_eq_F, true_or, or_true, or_false, false_or, false_and, and_false, z_isInY]
  · refine z_face.th (v := zJ 0) (E := eNSE) (n := 1) M ?_ ?_ (by decide) (by decide +kernel)
    · unfold F_Ledger_manager J_Ledger_manager_9
      by_cases h0 : x < 0
      · simp (disch := omega) only [Int.add_zero, Int.mul_zero, Int.reduceMul, Int.reduceAdd, Int.mul_one, Int.tdiv_eq_ediv_of_nonneg, Int.tmod_eq_emod_of_nonneg, ↓reduceIte, ↓zLet_eq, ↓zRd_ok, ↓zWr_ok, ↓zC_V, ↓zC_I, ↓zC_J, zUp_at, zUp_ne, q_up_at, q_up_ne, w32_of, w64_of, q_le_T, q_le_F, q_lt_T, q_lt_F, q_eq_T, q_eq_F, true_or, or_true, or_false, false_or, false_and, and_false]
      · simp (disch := omega) only [Int.add_zero, Int.mul_zero, Int.reduceMul, Int.reduceAdd, Int.mul_one, Int.tdiv_eq_ediv_of_nonneg, Int.tmod_eq_emod_of_nonneg, ↓reduceIte, ↓zLet_eq, ↓zRd_ok, ↓zWr_ok, ↓zC_V, ↓zC_I, ↓zC_J, zUp_at, zUp_ne, q_up_at, q_up_ne, w32_of, w64_of, q_le_T, q_le_F, q_lt_T, q_lt_F, q_eq_T, q_eq_F, true_or, or_true, or_false, false_or, false_and, and_false]
    · unfold F_Model_manager J_Model_manager_18
      simp (disch := omega) only [Int.add_zero, Int.mul_zero, Int.reduceMul, Int.reduceAdd, Int.mul_one, Int.tdiv_eq_ediv_of_nonneg, Int.tmod_eq_emod_of_nonneg, ↓reduceIte, ↓zLet_eq, ↓zRd_ok, ↓zWr_ok, ↓zC_V, ↓zC_I, ↓zC_J, zUp_at, zUp_ne, q_up_at, q_up_ne, w32_of, w64_of, q_le_T, q_le_F, q_lt_T, q_lt_F, q_eq_T, q_eq_F, true_or, or_true, or_false, false_or, false_and, and_false, z_isInN]
end FA
