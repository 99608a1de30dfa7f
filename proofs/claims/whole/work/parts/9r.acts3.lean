/-! ===== the tape's acts: one line ===== -/
theorem zMg_upg {pl : List Nat} {c : Nat} (hc : zIx pl 0 (zRho pl c) = some c) (μ ν : ZMem) (i v : Int) : zMg pl μ (zUp ν c i v) = zUp (zMg pl μ ν) (zRho pl c) i v := by
  funext c' i'
  cases hx : zIx pl 0 c' with
  | none =>
    have e1 : ∀ ν : ZMem, zMg pl μ ν c' i' = μ c' i' := fun ν => by unfold zMg; rw [hx]
    rw [e1]
    unfold zUp
    rw [if_neg, e1]
    intro q
    rw [q.1, hc] at hx
    cases hx
  | some j =>
    have e1 : ∀ ν : ZMem, zMg pl μ ν c' i' = ν j i' := fun ν => by unfold zMg; rw [hx]
    rw [e1]
    have e := zIx_rho hx
    unfold zUp
    by_cases h : j = c ∧ i' = i
    · rw [if_pos h, if_pos ⟨by rw [← e, h.1], h.2⟩]
    · rw [if_neg h, if_neg, e1]
      intro q
      rw [q.1, hc] at hx
      cases hx
      exact h ⟨rfl, q.2⟩
def X_t (t : Nat) (κ : ZMem) (p w : Int) : ZMem := zUp (zUp κ t 2 p) t 3 w
def x_pl (t : Nat) (pl : List Nat) : Prop := zIx pl 0 t = some 0 ∧ zRho pl 0 = t ∧ zRho pl 1 = t + 1
def k_T (t : Nat) (T : Int → Int) (E : Int) (κ : ZMem) : Prop := κ t 1 = E ∧ ∀ i, 0 ≤ i → i < E → κ (t + 1) i = T i
section TA
variable {t : Nat} {pl : List Nat} {T : Int → Int} {E p w p' w' x lo hi : Int} {κ κ' : ZMem} {j : Nat}
theorem X_t_X : X_t t (X_t t κ p w) p' w' = X_t t κ p' w' := by
  unfold X_t
  rw [zUp_swap (show (3 : Int) ≠ 2 by decide), zUp_twice, zUp_twice]
theorem X_t_self (h2 : κ t 2 = p) (h3 : κ t 3 = w) : X_t t κ p w = κ := by
  unfold X_t
  rw [zUp_self h2, zUp_self h3]
theorem X_t_1 : X_t t κ p w t 1 = κ t 1 := by
  unfold X_t
  rw [zUp_at, q_up_ne (by decide), zUp_at, q_up_ne (by decide)]
theorem X_t_2 : X_t t κ p w t 2 = p := by
  unfold X_t
  rw [zUp_at, q_up_ne (by decide), zUp_at, q_up_at]
theorem X_t_3 : X_t t κ p w t 3 = w := by
  unfold X_t
  rw [zUp_at, q_up_at]
theorem X_t_c {c : Nat} (h : c ≠ t) : X_t t κ p w c = κ c := by
  unfold X_t
  rw [zUp_ne h, zUp_ne h]
theorem X_vw (hp : x_pl t pl) : zVw pl (X_t t κ p w) = x_t (zVw pl (X_t t κ p w)) p w := by
  unfold x_t
  rw [zUp_self (μ := zVw pl (X_t t κ p w)), zUp_self]
  · show X_t t κ p w (zRho pl 0) 3 = w
    rw [hp.2.1]; exact X_t_3
  · show X_t t κ p w (zRho pl 0) 2 = p
    rw [hp.2.1]; exact X_t_2
theorem X_mg (hp : x_pl t pl) : zMg pl (X_t t κ p w) (x_t (zVw pl (X_t t κ p w)) p' w') = X_t t κ p' w' := by
  have hc : zIx pl 0 (zRho pl 0) = some 0 := by rw [hp.2.1]; exact hp.1
  unfold x_t
  rw [zMg_upg hc, zMg_upg hc, zMg_vw, hp.2.1]
  exact X_t_X
theorem k_T.tx (hp : x_pl t pl) (h : k_T t T E κ) : x_T T E (zVw pl (X_t t κ p w)) := by
  refine ⟨?_, fun i i0 i1 => ?_⟩
  · show X_t t κ p w (zRho pl 0) 1 = E
    rw [hp.2.1, X_t_1]; exact h.1
  · show X_t t κ p w (zRho pl 1) i = T i
    rw [hp.2.2, X_t_c (by omega)]; exact h.2 i i0 i1
theorem X_cm {v : Int} {F : ZMem → Option ZRes} (hp : x_pl t pl) (hF : F (x_t (zVw pl (X_t t κ p w)) p w) = some (.inr (some (zI v)), x_t (zVw pl (X_t t κ p w)) p' w')) (K : Int → ZMem → Option ZRes) (Z : String → ZMem → Option ZRes) : zCm pl (X_t t κ p w) (F (zVw pl (X_t t κ p w))) (zkI K) Z = K v (X_t t κ p' w') := by
  have e : F (zVw pl (X_t t κ p w)) = some (.inr (some (zI v)), x_t (zVw pl (X_t t κ p w)) p' w') := by
    rw [X_vw hp]
    rw [← X_vw hp]
    exact (congrArg F (X_vw hp)).trans hF
  rw [e, zCm_I, X_mg hp]
theorem X_next (hp : x_pl t pl) (hT : q_T T E) (h : k_T t T E κ) (p0 : 0 ≤ p) (p1 : p ≤ E) (K : Int → ZMem → Option ZRes) (Z : String → ZMem → Option ZRes) : zCm pl (X_t t κ p w) (F_Text_next (zVw pl (X_t t κ p w))) (zkI K) Z = K (q_nx T E p) (X_t t κ (q_nx T E p) w) := X_cm hp (x_next hT (h.tx hp) p0 p1) K Z
theorem X_through (hp : x_pl t pl) (hT : q_T T E) (h : k_T t T E κ) (p0 : 0 ≤ p) (p1 : p ≤ E) (K : Int → ZMem → Option ZRes) (Z : String → ZMem → Option ZRes) : zCm pl (X_t t κ p w) (F_Text_isThrough (zVw pl (X_t t κ p w))) (zkI K) Z = K (if q_nx T E p = E then 1 else 0) (X_t t κ (q_nx T E p) w) := X_cm hp (x_through hT (h.tx hp) p0 p1) K Z
theorem X_refuseNext (hp : x_pl t pl) (hT : q_T T E) (h : k_T t T E κ) (p0 : 0 ≤ p) (p1 : p ≤ E) (K : Int → ZMem → Option ZRes) (Z : String → ZMem → Option ZRes) : zCm pl (X_t t κ p w) (F_Text_refuseNext (zVw pl (X_t t κ p w))) (zkI K) Z = K 0 (X_t t κ (q_nx T E p) (q_nx T E p)) := X_cm hp (x_refuseNext hT (h.tx hp) p0 p1) K Z
theorem X_semiY (hp : x_pl t pl) (hT : q_T T E) (h : k_T t T E κ) (p0 : 0 ≤ p) (p1 : p ≤ E) (hs : q_sm1 T E (q_nx T E p)) (K : Int → ZMem → Option ZRes) (Z : String → ZMem → Option ZRes) : zCm pl (X_t t κ p w) (F_Text_takeSemicolon (zVw pl (X_t t κ p w))) (zkI K) Z = K 1 (X_t t κ (q_nx T E p + 1) w) := X_cm hp (x_semiY hT (h.tx hp) p0 p1 hs) K Z
theorem X_semiN (hp : x_pl t pl) (hT : q_T T E) (h : k_T t T E κ) (p0 : 0 ≤ p) (p1 : p ≤ E) (hs : ¬ q_sm1 T E (q_nx T E p)) (K : Int → ZMem → Option ZRes) (Z : String → ZMem → Option ZRes) : zCm pl (X_t t κ p w) (F_Text_takeSemicolon (zVw pl (X_t t κ p w))) (zkI K) Z = K 0 (X_t t κ (q_nx T E p) w) := X_cm hp (x_semiN hT (h.tx hp) p0 p1 hs) K Z
theorem X_wordY (hp : x_pl t pl) (hT : q_T T E) (h : k_T t T E κ) (p0 : 0 ≤ p) (p1 : p ≤ E) (hj : j < 19) (hw : q_wd T E j (q_nx T E p)) (K : Int → ZMem → Option ZRes) (Z : String → ZMem → Option ZRes) : zCm pl (X_t t κ p w) (F_Text_takeWord j (zVw pl (X_t t κ p w))) (zkI K) Z = K 1 (X_t t κ (q_nx T E p + zSl j) w) := X_cm hp (x_wordY hT (h.tx hp) hj p0 p1 hw) K Z
theorem X_wordN (hp : x_pl t pl) (hT : q_T T E) (h : k_T t T E κ) (p0 : 0 ≤ p) (p1 : p ≤ E) (hj : j < 19) (hw : ¬ q_wd T E j (q_nx T E p)) (K : Int → ZMem → Option ZRes) (Z : String → ZMem → Option ZRes) : zCm pl (X_t t κ p w) (F_Text_takeWord j (zVw pl (X_t t κ p w))) (zkI K) Z = K 0 (X_t t κ (q_nx T E p) w) := X_cm hp (x_wordN hT (h.tx hp) hj p0 p1 hw) K Z
theorem X_numY (hp : x_pl t pl) (hT : q_T T E) (h : k_T t T E κ) (p0 : 0 ≤ p) (p1 : p ≤ E) (l0 : -1 ≤ lo) (l1 : lo ≤ 10000) (h0 : -1 ≤ hi) (h1 : hi ≤ 10000) (hn : q_no T E lo hi (q_nx T E p)) (K : Int → ZMem → Option ZRes) (Z : String → ZMem → Option ZRes) : zCm pl (X_t t κ p w) (F_Text_takeNumber lo hi (zVw pl (X_t t κ p w))) (zkI K) Z = K (q_vl T (q_nx T E p) (q_ds T E (q_nx T E p))) (X_t t κ (q_nx T E p + q_ds T E (q_nx T E p)) w) := X_cm hp (x_numY hT (h.tx hp) p0 p1 l0 l1 h0 h1 hn) K Z
theorem X_numN (hp : x_pl t pl) (hT : q_T T E) (h : k_T t T E κ) (p0 : 0 ≤ p) (p1 : p ≤ E) (l0 : -1 ≤ lo) (l1 : lo ≤ 10000) (h0 : -1 ≤ hi) (h1 : hi ≤ 10000) (hn : ¬ q_no T E lo hi (q_nx T E p)) (K : Int → ZMem → Option ZRes) (Z : String → ZMem → Option ZRes) : zCm pl (X_t t κ p w) (F_Text_takeNumber lo hi (zVw pl (X_t t κ p w))) (zkI K) Z = K (-1) (X_t t κ (q_nx T E p) (q_nx T E p)) := X_cm hp (x_numN hT (h.tx hp) p0 p1 l0 l1 h0 h1 hn) K Z
theorem X_refuse (hp : x_pl t pl) (a : Int) (K : Int → ZMem → Option ZRes) (Z : String → ZMem → Option ZRes) : zCm pl (X_t t κ p w) (F_Text_refuse a (zVw pl (X_t t κ p w))) (zkI K) Z = K 0 (X_t t κ p a) := X_cm hp (x_refuse a) K Z
theorem X_rightY (hp : x_pl t pl) (K : Int → ZMem → Option ZRes) (Z : String → ZMem → Option ZRes) : zCm pl (X_t t κ p (-1)) (F_Text_isRight (zVw pl (X_t t κ p (-1)))) (zkI K) Z = K 1 (X_t t κ p (-1)) := X_cm hp x_isRightY K Z
theorem X_rightN (hp : x_pl t pl) (w0 : 0 ≤ w) (w1 : w ≤ 400) (K : Int → ZMem → Option ZRes) (Z : String → ZMem → Option ZRes) : zCm pl (X_t t κ p w) (F_Text_isRight (zVw pl (X_t t κ p w))) (zkI K) Z = K 0 (X_t t κ p w) := X_cm hp (x_isRightN w0 w1) K Z
end TA
