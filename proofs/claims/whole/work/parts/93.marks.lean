/-! ===== the books without the marks ===== -/
def q_mk (k : Int) : Prop := 30 ≤ k ∧ k < 54 ∧ k % 4 = 0
def q_nm (s : Int → Int) : Int → Int := fun k => if 30 ≤ k ∧ k < 54 ∧ k % 4 = 0 then 0 else s k
section FZ
variable {m dl : Nat} {d sum last fee l b B : Int} {tm ex s : Int → Int} {σ : QS}
theorem q_nm_ne {k : Int} (h : ¬ q_mk k) : q_nm s k = s k := if_neg h
theorem q_nm_at {k : Int} (h : q_mk k) : q_nm s k = 0 := if_pos h
theorem q_nm_lo {k : Int} (h : k < 30 ∨ 54 ≤ k) : q_nm s k = s k := if_neg (by omega)
theorem q_nm_fl (hl : 0 ≤ l) (hl8 : l < 8) : q_fl tm l b sum (q_nm s) = q_nm (q_fl tm l b sum s) := by
  have e1 : q_cc l b (q_nm s) = q_cc l b s := by unfold q_cc; rw [q_nm_lo (by omega), q_nm_lo (by omega)]
  have e2 : q_cp l b (q_nm s) = q_cp l b s := by unfold q_cp; rw [q_nm_lo (by omega), q_nm_lo (by omega)]
  have e3 : q_fM tm l b sum (q_nm s) = q_fM tm l b sum s := by unfold q_fM; rw [e1, e2, q_nm_lo (by omega), q_nm_lo (by omega)]
  funext k
  by_cases hk : q_mk k
  · have hk' := hk
    unfold q_mk at hk'
    rw [q_nm_at hk, q_fl_at (by omega) hl hl8, q_nm_at hk]
  · rw [q_nm_ne hk]
    unfold q_fl
    rw [e1, e2, e3, q_nm_ne hk, q_nm_lo (k := 54 + 4 * l) (by omega), q_nm_lo (k := 54 + 4 * l + 1) (by omega)]
theorem q_nm_fM (hl : 0 ≤ l) : q_fM tm l b sum (q_nm s) = q_fM tm l b sum s := by
  have e1 : q_cc l b (q_nm s) = q_cc l b s := by unfold q_cc; rw [q_nm_lo (by omega), q_nm_lo (by omega)]
  have e2 : q_cp l b (q_nm s) = q_cp l b s := by unfold q_cp; rw [q_nm_lo (by omega), q_nm_lo (by omega)]
  unfold q_fM
  rw [e1, e2, q_nm_lo (by omega), q_nm_lo (by omega)]
theorem q_nm_up {j v : Int} (h : ¬ q_mk j) : q_up (q_nm s) j v = q_nm (q_up s j v) := by
  funext k
  by_cases e : k = j
  · subst e
    rw [q_up_at, q_nm_ne h, q_up_at]
  · rw [q_up_ne e]
    by_cases hk : q_mk k
    · rw [q_nm_at hk, q_nm_at hk]
    · rw [q_nm_ne hk, q_nm_ne hk, q_up_ne e]
theorem q_nm_mark {j v : Int} (h : q_mk j) : q_nm (q_up s j v) = q_nm s := by
  funext k
  by_cases hk : q_mk k
  · rw [q_nm_at hk, q_nm_at hk]
  · have e : k ≠ j := fun e => hk (by rw [e]; exact h)
    rw [q_nm_ne hk, q_nm_ne hk, q_up_ne e]
theorem q_nm_sl1 (d0 : 0 ≤ d) (d1 : d < 6) : q_sl1 d sum (q_nm s) = q_nm (q_sl1 d sum s) := by
  unfold q_sl1
  rw [q_nm_ne (k := 30 + 4 * d + 1) (by unfold q_mk; omega)]
  exact q_nm_up (by unfold q_mk; omega)
theorem q_nm_sl2 (d0 : 0 ≤ d) (d1 : d < 6) : q_sl2 tm d sum (q_nm s) = q_nm (q_sl2 tm d sum s) := by
  unfold q_sl2
  rw [q_nm_sl1 d0 d1, q_nm_fl (by omega) (by omega)]
  split
  · exact q_nm_fl (by omega) (by omega)
  · rfl
theorem q_nm_slM (d0 : 0 ≤ d) (d1 : d < 6) : q_slM tm d sum (q_nm s) = q_slM tm d sum s := by
  unfold q_slM
  rw [q_nm_sl1 d0 d1, q_nm_fl (by omega) (by omega)]
  split
  · exact q_nm_fM (by omega)
  · exact q_nm_fM (by omega)
theorem q_nm_sl3 {M : Int} : q_sl3 tm M (q_nm s) = q_nm (q_sl3 tm M s) := by
  funext k
  by_cases hk : q_mk k
  · have hk' := hk
    unfold q_mk at hk'
    rw [q_nm_at hk]
    unfold q_sl3
    rw [if_neg (by omega), if_neg (by omega), if_neg (by omega), q_nm_at hk]
  · rw [q_nm_ne hk]
    unfold q_sl3
    rw [q_nm_ne hk]
theorem q_nm_sl4 (d0 : 0 ≤ d) (d1 : d < 6) : q_sl4 d (q_nm s) = q_nm (q_sl4 d s) := by
  funext k
  by_cases hk : q_mk k
  · have hk' := hk
    unfold q_mk at hk'
    rw [q_nm_at hk]
    unfold q_sl4
    rw [if_neg (by omega), if_neg (by omega), if_neg (by omega), if_neg (by omega), if_neg (by omega), q_nm_at hk]
  · rw [q_nm_ne hk]
    unfold q_sl4
    rw [q_nm_ne hk, q_nm_lo (k := 54 + 4 * (2 + d)) (by omega), q_nm_lo (k := 54 + 4 * (2 + d) + 1) (by omega)]
theorem q_nm_sb (d0 : 0 ≤ d) (d1 : d < 6) : q_sb tm d sum last (q_nm s) = q_nm (q_sb tm d sum last s) := by
  unfold q_sb
  rw [q_nm_slM d0 d1, q_nm_sl2 d0 d1, q_nm_sl3]
  split
  · rfl
  · exact q_nm_sl4 d0 d1
theorem q_nm_qb : q_qb tm fee (q_nm s) = q_nm (q_qb tm fee s) := by
  funext k
  by_cases hk : q_mk k
  · have hk' := hk
    unfold q_mk at hk'
    rw [q_nm_at hk, q_qb_lo (by omega), q_nm_at hk]
  · rw [q_nm_ne hk]
    unfold q_qb q_pf
    rw [q_nm_ne hk]
    by_cases c : 54 ≤ k ∧ k < 86 ∧ (k - 54) % 4 = 1
    · rw [if_pos c, if_pos c, q_nm_lo (k := k - 1) (by omega)]
    · rw [if_neg c, if_neg c]
theorem q_nm_rs (d0 : 0 ≤ d) (d1 : d < 6) : q_rs tm d sum (q_nm s) = q_nm (q_rs tm d sum s) := by
  funext k
  by_cases hk : q_mk k
  · have hk' := hk
    unfold q_mk at hk'
    rw [q_nm_at hk]
    unfold q_rs
    rw [if_neg (by omega), if_neg (by omega), if_neg (by omega), q_nm_at hk]
  · rw [q_nm_ne hk]
    unfold q_rs
    rw [q_nm_ne hk]
theorem q_nm_en : q_en tm (q_nm s) = q_nm (q_en tm s) := by
  have e1 : q_due (q_nm s) = q_due s := by unfold q_due; rw [q_nm_lo (by omega), q_nm_lo (by omega)]
  have e2 : q_hl (q_nm s) = q_hl s := by unfold q_hl; rw [e1, q_nm_lo (by omega)]
  have e3 : q_ou tm (q_nm s) = q_ou tm s := by unfold q_ou; rw [e1, e2, q_nm_lo (by omega)]
  funext k
  by_cases hk : q_mk k
  · have hk' := hk
    unfold q_mk at hk'
    rw [q_nm_at hk]
    unfold q_en
    rw [if_neg (by omega), if_neg (by omega), if_neg (by omega), if_neg (by omega), q_nm_at hk]
  · rw [q_nm_ne hk]
    unfold q_en
    rw [e2, e3, q_nm_ne hk, q_nm_lo (k := 88) (by omega)]
end FZ
