/-! ===== face: order ===== -/
def q_on (s : Int → Int) : Nat → Nat
  | 0 => 0
  | d + 1 => if s (30 + 4 * (d : Int) + 3) = 0 then q_on s d + 1 else q_on s d
theorem q_on_le (s : Int → Int) : ∀ n : Nat, q_on s n ≤ n
  | 0 => Nat.le_refl _
  | n + 1 => by
    have := q_on_le s n
    rw [q_on]
    split
    · omega
    · omega
def o_bc (a0 : Int) : Int := zand (((zand (((zand ((a0 - (zand (zushr a0 1) 1431655765))) 858993459) + (zand (zushr ((a0 - (zand (zushr a0 1) 1431655765))) 2) 858993459)) + (zushr ((zand ((a0 - (zand (zushr a0 1) 1431655765))) 858993459) + (zand (zushr ((a0 - (zand (zushr a0 1) 1431655765))) 2) 858993459)) 4)) 252645135) + (zushr (zand (((zand ((a0 - (zand (zushr a0 1) 1431655765))) 858993459) + (zand (zushr ((a0 - (zand (zushr a0 1) 1431655765))) 2) 858993459)) + (zushr ((zand ((a0 - (zand (zushr a0 1) 1431655765))) 858993459) + (zand (zushr ((a0 - (zand (zushr a0 1) 1431655765))) 2) 858993459)) 4)) 252645135) 8)) + (zushr ((zand (((zand ((a0 - (zand (zushr a0 1) 1431655765))) 858993459) + (zand (zushr ((a0 - (zand (zushr a0 1) 1431655765))) 2) 858993459)) + (zushr ((zand ((a0 - (zand (zushr a0 1) 1431655765))) 858993459) + (zand (zushr ((a0 - (zand (zushr a0 1) 1431655765))) 2) 858993459)) 4)) 252645135) + (zushr (zand (((zand ((a0 - (zand (zushr a0 1) 1431655765))) 858993459) + (zand (zushr ((a0 - (zand (zushr a0 1) 1431655765))) 2) 858993459)) + (zushr ((zand ((a0 - (zand (zushr a0 1) 1431655765))) 858993459) + (zand (zushr ((a0 - (zand (zushr a0 1) 1431655765))) 2) 858993459)) 4)) 252645135) 8)) 16)) 63
theorem f_bitCount (x : Int) (μ : ZMem) : F_Integer_bitCount x μ = some (.inr (some (zI (o_bc x))), μ) := Eq.trans rfl rfl
theorem o_bc_all : ∀ n : Nat, n < 6 → ∀ f : Nat, f < 2 ^ n → (0 ≤ zor (f : Int) (zshl 1 (n : Int)) ∧ zor (f : Int) (zshl 1 (n : Int)) < ((2 ^ (n + 1) : Nat) : Int)) ∧ o_bc (zor (f : Int) (zshl 1 (n : Int))) = o_bc (f : Int) + 1 := by decide +kernel
theorem o_bc_ob (s : Int → Int) : ∀ n : Nat, n ≤ 6 → (0 ≤ q_ob s n ∧ q_ob s n < ((2 ^ n : Nat) : Int)) ∧ o_bc (q_ob s n) = q_on s n
  | 0, _ => ⟨⟨Int.le_refl _, by show (0 : Int) < ((2 ^ 0 : Nat) : Int); decide⟩, by show o_bc 0 = ((0 : Nat) : Int); decide +kernel⟩
  | n + 1, h => by
    obtain ⟨⟨i1, i2⟩, i3⟩ := o_bc_ob s n (by omega)
    rw [q_ob, q_on]
    by_cases g : s (30 + 4 * (n : Int) + 3) = 0
    · rw [if_pos g, if_pos g]
      obtain ⟨j1, j2⟩ := o_bc_all n (by omega) (q_ob s n).toNat (by omega)
      rw [Int.toNat_of_nonneg i1] at j1 j2
      exact ⟨j1, by rw [j2, i3]; omega⟩
    · rw [if_neg g, if_neg g]
      refine ⟨⟨i1, Int.lt_of_lt_of_le i2 ?_⟩, i3⟩
      have := Nat.pow_le_pow_right (n := 2) (by decide) (show n ≤ n + 1 by omega)
      omega
theorem q_on_sb {tm s : Int → Int} {d : Nat} {sum : Int} (hd : d < 6) (h0 : s (30 + 4 * (d : Int) + 3) = 0) : ∀ n : Nat, n ≤ 6 → q_on (q_sb tm d sum 1 s) n + (if d < n then 1 else 0) = q_on s n
  | 0, _ => by rw [if_neg (by omega)]; rfl
  | n + 1, hn => by
    have i := q_on_sb (tm := tm) (sum := sum) hd h0 n (by omega)
    have key : q_sb tm (d : Int) sum 1 s (30 + 4 * (n : Int) + 3) = if n = d then 1 else s (30 + 4 * (n : Int) + 3) := by
      rw [q_sb_k6 (k := 30 + 4 * (n : Int) + 3) (by omega) (by omega) (by unfold q_k6; omega), if_neg (by omega)]
      by_cases e : n = d
      · rw [if_pos e, if_pos ⟨by decide, by omega⟩]
      · rw [if_neg e, if_neg (fun q => e (by omega))]
    rw [q_on, q_on, key]
    by_cases e : n = d
    · subst e
      rw [if_pos rfl, if_neg (show ¬ (1 : Int) = 0 by decide), if_pos h0, if_pos (by omega)]
      rw [if_neg (by omega)] at i
      omega
    · rw [if_neg e]
      by_cases g : s (30 + 4 * (n : Int) + 3) = 0
      · rw [if_pos g, if_pos g]
        by_cases hdn : d < n
        · rw [if_pos hdn] at i
          rw [if_pos (by omega)]
          omega
        · rw [if_neg hdn] at i
          rw [if_neg (by omega)]
          omega
      · rw [if_neg g, if_neg g]
        by_cases hdn : d < n
        · rw [if_pos hdn] at i
          rw [if_pos (by omega)]
          omega
        · rw [if_neg hdn] at i
          rw [if_neg (by omega)]
          omega
theorem q_on_ex {s : Int → Int} : ∀ n : Nat, 0 < q_on s n → ∃ d : Nat, d < n ∧ s (30 + 4 * (d : Int) + 3) = 0
  | 0, h => absurd h (Nat.lt_irrefl _)
  | n + 1, h => by
    by_cases g : s (30 + 4 * (n : Int) + 3) = 0
    · exact ⟨n, by omega, g⟩
    · rw [q_on, if_neg g] at h
      obtain ⟨d, d1, d2⟩ := q_on_ex n h
      exact ⟨d, by omega, d2⟩
theorem o_fd_mono {f : Nat → OA → OA} (h : ∀ d A, A.1 ≤ (f d A).1) : ∀ (n : Nat) (A : OA), A.1 ≤ (o_fd f n A).1
  | 0, _ => Int.le_refl _
  | n + 1, A => Int.le_trans (o_fd_mono h n A) (h n _)
theorem o_fd_ge {f : Nat → OA → OA} (h : ∀ d A, A.1 ≤ (f d A).1) {d : Nat} (hd : ∀ A, 0 ≤ (f d A).1) : ∀ (n : Nat) (A : OA), d < n → 0 ≤ (o_fd f n A).1
  | 0, _, q => absurd q (Nat.not_lt_zero _)
  | n + 1, A, q => by
    rw [o_fd]
    by_cases e : d = n
    · rw [← e]; exact hd _
    · exact Int.le_trans (o_fd_ge h hd n A (by omega)) (h n _)
theorem o_tr_mono {tm : Int → Int} {dl : Nat} : ∀ (r : Nat) (j : Int) (s p : Int → Int) (A : OA), A.1 ≤ (o_tr tm dl r j s p A).1
  | 0, j, s, p, A => by
    rw [o_tr, o_lf]
    split
    · show A.1 ≤ s 86
      omega
    · exact Int.le_refl _
  | r + 1, j, s, p, A => by
    rw [o_tr]
    refine o_fd_mono (fun d A => ?_) dl A
    show A.1 ≤ (if s (30 + 4 * (d : Int) + 3) = 0 then o_tr tm dl r (j + 1) (q_sb tm d (s (30 + 4 * (d : Int) + 2)) 1 s) (q_up p j d) A else A).1
    split
    · exact o_tr_mono r _ _ _ _
    · exact Int.le_refl _
theorem o_tr_ge {m dl : Nat} {tm : Int → Int} (h6 : m ≤ 6) (hdl : dl ≤ 6) (ht : q_tm tm) : ∀ (r : Nat) (j B : Int) (s p : Int → Int) (A : OA), q_inv m dl B s → 0 ≤ B → B + 6 * r ≤ 800 → r ≤ q_on s dl → 0 ≤ (o_tr tm dl r j s p A).1
  | 0, j, B, s, p, A, hi, _, _, _ => by
    have hP : 0 ≤ s 86 ∧ s 86 ≤ 100000 * B := hi.2.2.2.1.1
    rw [o_tr, o_lf]
    split
    · show 0 ≤ s 86
      omega
    · omega
  | r + 1, j, B, s, p, A, hi, hB0, hB1, hr => by
    obtain ⟨d, d1, d2⟩ := q_on_ex (s := s) dl (by omega)
    have hD := hi.2.1 d (by omega)
    rw [o_tr]
    refine o_fd_ge (d := d) (fun d A => ?_) (fun A => ?_) dl A d1
    · show A.1 ≤ (if s (30 + 4 * (d : Int) + 3) = 0 then o_tr tm dl r (j + 1) (q_sb tm d (s (30 + 4 * (d : Int) + 2)) 1 s) (q_up p j d) A else A).1
      split
      · exact o_tr_mono r _ _ _ _
      · exact Int.le_refl _
    · show 0 ≤ (if s (30 + 4 * (d : Int) + 3) = 0 then o_tr tm dl r (j + 1) (q_sb tm d (s (30 + 4 * (d : Int) + 2)) 1 s) (q_up p j d) A else A).1
      rw [if_pos d2]
      have c := q_on_sb (tm := tm) (sum := s (30 + 4 * (d : Int) + 2)) (show d < 6 by omega) d2 dl hdl
      rw [if_pos d1] at c
      exact o_tr_ge h6 hdl ht r (j + 1) (B + 5) _ _ A (hi.sb h6 hdl ht hB0 (by omega) (by omega) (by omega) hD.2.2.1.1 hD.2.2.1.2) (by omega) (by omega) (by omega)
def o_R (A A' : OA) : Prop := A.1 = A'.1 ∧ (0 ≤ A.1 → A.2 = A'.2)
theorem o_fd_R {f : Nat → OA → OA} (h : ∀ d A A', o_R A A' → o_R (f d A) (f d A')) : ∀ (n : Nat) (A A' : OA), o_R A A' → o_R (o_fd f n A) (o_fd f n A')
  | 0, _, _, q => q
  | n + 1, A, A', q => h n _ _ (o_fd_R h n A A' q)
theorem o_tr_R {tm : Int → Int} {dl : Nat} : ∀ (r : Nat) (j : Int) (s p : Int → Int) (A A' : OA), o_R A A' → o_R (o_tr tm dl r j s p A) (o_tr tm dl r j s p A')
  | 0, j, s, p, A, A', h => by
    rw [o_tr, o_tr, o_lf, o_lf]
    by_cases g : A.1 < s 86
    · rw [if_pos g, if_pos (by rw [← h.1]; exact g)]
      exact ⟨rfl, fun _ => rfl⟩
    · rw [if_neg g, if_neg (by rw [← h.1]; exact g)]
      exact h
  | r + 1, j, s, p, A, A', h => by
    rw [o_tr, o_tr]
    refine o_fd_R (fun d A A' q => ?_) dl A A' h
    show o_R (if s (30 + 4 * (d : Int) + 3) = 0 then o_tr tm dl r (j + 1) (q_sb tm d (s (30 + 4 * (d : Int) + 2)) 1 s) (q_up p j d) A else A) (if s (30 + 4 * (d : Int) + 3) = 0 then o_tr tm dl r (j + 1) (q_sb tm d (s (30 + 4 * (d : Int) + 2)) 1 s) (q_up p j d) A' else A')
    by_cases g : s (30 + 4 * (d : Int) + 3) = 0
    · rw [if_pos g, if_pos g]
      exact o_tr_R r _ _ _ _ _ q
    · rw [if_neg g, if_neg g]
      exact q
abbrev plW0 : List Nat := [0, 1, 2, 3, 4, 5, 6, 7, 8, 9, 10, 11, 12, 13, 14, 15, 16, 17, 18, 19, 20, 21, 22, 23, 24, 25, 26, 27, 28, 29, 30, 31, 32, 33, 34, 35, 36, 37, 38, 39, 40, 41, 42, 43, 44, 45]
abbrev plWW : List Nat := [51, 52, 53, 54, 55, 56, 57, 58, 59, 60, 61, 62, 63, 64, 65, 66, 67, 68, 69, 70, 71, 72, 73, 74, 75, 76, 77, 78, 79, 80, 81, 82, 83, 84, 85, 86, 87, 88, 89, 90, 91, 92, 93, 94, 95, 96, 14, 15, 16, 17, 18, 19]
abbrev plW1 : List Nat := [2, 3, 4, 5, 6, 7, 46, 47, 48, 49, 50, 51]
abbrev plW2 : List Nat := [46, 47, 48, 49, 50, 51]
theorem zIx_S0 {c : Nat} (h : c < 46) : zIx plW0 0 c = some c := by
  have : ∀ c : Nat, c < 46 → zIx plW0 0 c = some c := by decide +kernel
  exact this c h
theorem o_search {m dl : Nat} {B : Int} {tm s : Int → Int} {μ : ZMem} (hb : b_bk dl tm s (zVw plW2 μ)) (hi : q_inv m dl B s) (h6 : m ≤ 6) (hdl : dl ≤ 6) (ht : q_tm tm) (hB0 : 0 ≤ B) (hB1 : B ≤ 764) :
    ∃ μ', F_Orders_search μ = some (.inr none, μ') ∧ (∀ c, 46 ≤ c → μ' c = μ c) ∧ o_H (q_on s dl) 0 (fun _ => 0) (o_tr tm dl (q_on s dl) 0 s (fun _ => 0) (-1, μ 45)) μ' := by
  have v91 : 0 ≤ s 91 ∧ s 91 ≤ 1 := hi.2.2.2.1.2.2.2.2.2
  have on6 := q_on_le s dl
  obtain ⟨ν1, r1, b1, f1⟩ := b_copyFrom (μ := zVw plW1 μ) (hb.cong rfl rfl rfl rfl rfl) (by omega)
  have o1 : ∀ c, c < 2 ∨ 8 ≤ c → zMg plW1 μ ν1 c = μ c := fun c hc => zMg_6 f1 (by
    show c ∉ [2, 3, 4, 5, 6, 7]
    simp only [List.mem_cons, List.not_mem_nil, or_false]
    omega)
  have b1' : b_bk dl tm s (zVw [2, 3, 4, 5, 6, 7] (zMg plW1 μ ν1)) := b1.cong (zMg_in (pl := plW1) (c := 2) (by decide)) (zMg_in (pl := plW1) (c := 3) (by decide)) (zMg_in (pl := plW1) (c := 4) (by decide)) (zMg_in (pl := plW1) (c := 5) (by decide)) (zMg_in (pl := plW1) (c := 6) (by decide))
  generalize hμ1 : zMg plW1 μ ν1 = μ1 at *
  have hb2 : b_bk dl tm s (zVw plW2 μ1) := hb.cong (o1 46 (by decide)) (o1 47 (by decide)) (o1 48 (by decide)) (o1 49 (by decide)) (o1 50 (by decide))
  have eo := b_openDeals hb2 hi hdl
  have ebc := (o_bc_ob s dl hdl).2
  have hH : o_H (q_on s dl) 0 (fun _ => 0) (-1, μ 45) (zVw plW0 (zUp (zUp μ1 0 3 (q_on s dl)) 0 4 (-1))) := by
    refine ⟨?_, fun i i0 i1 => by omega, ?_, fun i i0 i1 => ?_, by show (-1 : Int) ≤ -1; decide, by show (-1 : Int) ≤ 1000000000; decide⟩
    · show zUp (zUp μ1 0 3 (q_on s dl)) 0 4 (-1) 0 3 = _
      rw [zUp_at, q_up_ne (by decide), zUp_at, q_up_at]
    · show zUp (zUp μ1 0 3 (q_on s dl)) 0 4 (-1) 0 4 = _
      rw [zUp_at, q_up_at]
    · show zUp (zUp μ1 0 3 (q_on s dl)) 0 4 (-1) 45 i = _
      rw [zUp_ne (by decide), zUp_ne (by decide), o1 45 (by decide)]
  obtain ⟨ν, r, fr, h⟩ := o_try_0 (r := q_on s dl) (L := q_on s dl) (j := 0) rfl (b1'.cong (ν' := zVw [2, 3, 4, 5, 6, 7] (zVw plW0 (zUp (zUp μ1 0 3 (q_on s dl)) 0 4 (-1)))) (by show zUp (zUp μ1 0 3 (q_on s dl)) 0 4 (-1) 2 = μ1 2; rw [zUp_ne (by decide), zUp_ne (by decide)]) (by show zUp (zUp μ1 0 3 (q_on s dl)) 0 4 (-1) 3 = μ1 3; rw [zUp_ne (by decide), zUp_ne (by decide)]) (by show zUp (zUp μ1 0 3 (q_on s dl)) 0 4 (-1) 4 = μ1 4; rw [zUp_ne (by decide), zUp_ne (by decide)]) (by show zUp (zUp μ1 0 3 (q_on s dl)) 0 4 (-1) 5 = μ1 5; rw [zUp_ne (by decide), zUp_ne (by decide)]) (by show zUp (zUp μ1 0 3 (q_on s dl)) 0 4 (-1) 6 = μ1 6; rw [zUp_ne (by decide), zUp_ne (by decide)])) hi h6 hdl ht hB0 (by omega) (by omega) (by omega) hH
  refine ⟨zMg plW0 (zUp (zUp μ1 0 3 (q_on s dl)) 0 4 (-1)) ν, ?_, fun c hc => ?_, ?_⟩
  · unfold F_Orders_search
    rw [r1, zCm_V, hμ1, eo, zCm_I, zMg_vw, f_bitCount, zC_I, zLet_eq, ebc, zLet_eq, r, zCm_V]
  · rw [zMg_out (by
      intro q
      have : ∀ c ∈ plW0, c < 46 := by decide
      have := this c q
      omega), zUp_ne (by omega), zUp_ne (by omega), o1 c (by omega)]
  · obtain ⟨g3, g44, g4, g45, gb⟩ := h
    refine ⟨?_, fun i i0 i1 => by omega, ?_, fun i i0 i1 => ?_, gb⟩
    · rw [zMg_in (zIx_S0 (c := 0) (by decide))]; exact g3
    · rw [zMg_in (zIx_S0 (c := 0) (by decide))]; exact g4
    · rw [zMg_in (zIx_S0 (c := 45) (by decide))]; exact g45 i i0 i1
theorem m_openMany {m dl : Nat} {B x : Int} {μ : ZMem} (c6 : μ 0 6 = dl) (hdl : dl ≤ 6) (hi : q_inv m dl B (μ 5)) (h39 : μ 0 39 = 0) (K : ZMem → Option ZRes) : ∃ μ', L_Model_order_12 x K zN 0 μ = K μ' ∧ (∀ c, c ≠ 0 → μ' c = μ c) ∧ (∀ k, k ≠ 39 → μ' 0 k = μ 0 k) ∧ μ' 0 39 = q_on (μ 5) dl := by
  obtain ⟨⟨v, ν⟩, e, i, hv, hii, k1, k2, k3⟩ := q_loop (L := fun n (b : Int × ZMem) => L_Model_order_12 x K n b.1 b.2) (P := fun k b => ∃ i : Nat, b.1 = i ∧ i + k = dl ∧ (∀ c, c ≠ 0 → b.2 c = μ c) ∧ (∀ k, k ≠ 39 → b.2 0 k = μ 0 k) ∧ b.2 0 39 = q_on (μ 5) i) (fun n k b hb => by
      obtain ⟨v, ν⟩ := b
      obtain ⟨i, rfl, hii, k1, k2, k3⟩ := hb
      simp only [] at k1 k2 k3 ⊢
      have e6 : ν 0 6 = dl := (k2 6 (by decide)).trans c6
      have hD := hi.2.1 i (by omega)
      have e5 : ν 5 = μ 5 := k1 5 (by decide)
      by_cases g : μ 5 (30 + 4 * (i : Int) + 3) = 0
      · refine ⟨(i + 1, zUp ν 0 39 (q_on (μ 5) i + 1)), ?_, i + 1, rfl, by omega, fun c hc => ?_, fun k hk => ?_, ?_⟩
        · show L_Model_order_12 x K (n + 1) (i : Int) ν = _
          rw [L_Model_order_12, e6, w32_of (by omega) (by omega), w32_of (by omega) (by omega), if_neg (by omega), m_dealAt, zC_I, zRd_ok (by omega) (by omega) (by omega), e5, g, if_pos rfl, k3]
          rfl
        · simp only []
          rw [zUp_ne hc]; exact k1 c hc
        · simp only []
          rw [zUp_at, q_up_ne hk]; exact k2 k hk
        · simp only []
          rw [zUp_at, q_up_at, q_on, if_pos g]
          omega
      · refine ⟨(i + 1, zUp ν 0 39 (q_on (μ 5) i + 0)), ?_, i + 1, rfl, by omega, fun c hc => ?_, fun k hk => ?_, ?_⟩
        · show L_Model_order_12 x K (n + 1) (i : Int) ν = _
          rw [L_Model_order_12, e6, w32_of (by omega) (by omega), w32_of (by omega) (by omega), if_neg (by omega), m_dealAt, zC_I, zRd_ok (by omega) (by omega) (by omega), e5, w64_of (by omega) (by omega), w64_of (by omega) (by omega), if_neg g, k3]
          rfl
        · simp only []
          rw [zUp_ne hc]; exact k1 c hc
        · simp only []
          rw [zUp_at, q_up_ne hk]; exact k2 k hk
        · simp only []
          rw [zUp_at, q_up_at, q_on, if_neg g, Int.add_zero]) dl zN (0, μ) ⟨0, rfl, by omega, fun _ _ => rfl, fun _ _ => rfl, h39⟩ (Nat.le_of_lt (zN_gt (by omega)))
  simp only [] at e hv k1 k2 k3
  obtain rfl : i = dl := by omega
  refine ⟨ν, ?_, k1, k2, k3⟩
  refine e.trans ?_
  rw [hv]
  obtain ⟨n, hn⟩ : ∃ n, zN - i = n + 1 := ⟨zN - i - 1, by have := zN_gt (m := i) (by omega); omega⟩
  rw [hn]
  show L_Model_order_12 x K (n + 1) (i : Int) ν = _
  rw [L_Model_order_12, k2 6 (by decide), c6, if_pos (Int.le_refl _)]
