/-! ===== what the acts do, in numbers: the row s (investors 5i+.., deals 30+4d+.., ladders 54+4l+.., the manager 86.., the quarter 90, ended 91), what was paid and got by quarters, the fees ===== -/
abbrev QS : Type := (Int → Int) × (Int → Int) × (Int → Int) × (Int → Int)
abbrev q_ex (ex : Int → Int) (i d : Int) : Prop := d ≠ -1 ∧ w32 (zand (zshr (ex d) i) 1) = 1
def q_wt (s : Int → Int) (i : Int) : Int := if s (5 * i + 4) = 1 then (s (5 * i) + 1) / 2 else s (5 * i)
def q_wg (ex s : Int → Int) (d : Int) : Int → Int := fun i => if q_ex ex i d then 0 else q_wt s i
def q_wp (ex s : Int → Int) (d : Int) : Int → Int := fun i => if q_ex ex i d then 0 else s (5 * i + 1)
def q_py (m : Nat) (pt s : Int → Int) : Int → Int := fun k => if 0 ≤ k ∧ k < 5 * m then (if k % 5 = 1 then s k - pt (k / 5) else if k % 5 = 2 then s k + pt (k / 5) else s k) else s k
def q_gt (m : Nat) (pt s : Int → Int) : Int → Int := fun k => if 0 ≤ k ∧ k < 5 * m ∧ k % 5 = 3 then s k + pt (k / 5) else s k
def q_tr (m : Nat) (q : Int) (pt p : Int → Int) : Int → Int := fun k => if 0 ≤ k ∧ k < 201 * m ∧ k % 201 = q then p k + pt (k / 201) else p k
def q_cc (l b : Int) (s : Int → Int) : Int := s (54 + 4 * l) + (if b = 0 then 0 else s 58)
def q_cp (l b : Int) (s : Int → Int) : Int := s (54 + 4 * l + 1) + (if b = 0 then 0 else s 59)
def q_fM (tm : Int → Int) (l b sum : Int) (s : Int → Int) : Int := q_sM tm (q_cc l b s) (q_cp l b s) (s (54 + 4 * l + 2)) (s (54 + 4 * l + 3)) sum
def q_fl (tm : Int → Int) (l b sum : Int) (s : Int → Int) : Int → Int := fun k =>
  if k = 54 + 4 * l then s k - q_min sum (s k)
  else if k = 58 then s k - (q_s0 (q_cc l b s) sum - q_min sum (s (54 + 4 * l)))
  else if k = 54 + 4 * l + 1 then s k - q_min (sum - q_s0 (q_cc l b s) sum) (s k)
  else if k = 59 then s k - (q_s1 (q_cc l b s) (q_cp l b s) sum - q_min (sum - q_s0 (q_cc l b s) sum) (s (54 + 4 * l + 1)))
  else if k = 54 + 4 * l + 2 then s k + (sum - q_s0 (q_cc l b s) sum - q_fM tm l b sum s)
  else if k = 54 + 4 * l + 3 then s k + q_fM tm l b sum s
  else s k
def q_sl1 (d sum : Int) (s : Int → Int) : Int → Int := q_up s (30 + 4 * d + 1) (s (30 + 4 * d + 1) + sum)
def q_sl2 (tm : Int → Int) (d sum : Int) (s : Int → Int) : Int → Int := if tm 3 = 1 then q_fl tm (2 + d) 1 sum (q_fl tm 0 0 sum (q_sl1 d sum s)) else q_fl tm 0 0 sum (q_sl1 d sum s)
def q_slM (tm : Int → Int) (d sum : Int) (s : Int → Int) : Int := if tm 3 = 1 then q_fM tm (2 + d) 1 sum (q_fl tm 0 0 sum (q_sl1 d sum s)) else q_fM tm 0 0 sum (q_sl1 d sum s)
def q_sl3 (tm : Int → Int) (M : Int) (s : Int → Int) : Int → Int := fun k => if k = 86 then s k + M else if k = 87 then s k + (M - M * tm 5 / 100) else if k = 88 then s k + M * tm 5 / 100 else s k
def q_sl4 (d : Int) (s : Int → Int) : Int → Int := fun k => if k = 30 + 4 * d + 3 then 1 else if k = 58 then s k + s (54 + 4 * (2 + d)) else if k = 59 then s k + s (54 + 4 * (2 + d) + 1) else if k = 54 + 4 * (2 + d) then 0 else if k = 54 + 4 * (2 + d) + 1 then 0 else s k
def q_sb (tm : Int → Int) (d sum last : Int) (s : Int → Int) : Int → Int := if last = 0 then q_sl3 tm (q_slM tm d sum s) (q_sl2 tm d sum s) else q_sl4 d (q_sl3 tm (q_slM tm d sum s) (q_sl2 tm d sum s))
def q_pf (tm s : Int → Int) : Int → Int := fun k => if 54 ≤ k ∧ k < 86 ∧ (k - 54) % 4 = 1 then q_min 1000000000 (s k + (s (k - 1) + s k) * tm 0 / 10000) else s k
def q_qb (tm : Int → Int) (fee : Int) (s : Int → Int) : Int → Int := fun k => if k = 54 then s k + fee else if k = 58 ∧ tm 3 = 1 then s k + fee else if k = 90 then s k + 1 else q_pf tm s k
def q_rs (tm : Int → Int) (d sum : Int) (s : Int → Int) : Int → Int := fun k => if k = 30 + 4 * d then s k + sum else if k = 54 then s k + sum else if k = 54 + 4 * (2 + d) ∧ tm 3 = 1 then s k + sum else s k
def q_due (s : Int → Int) : Int := q_max 0 (s 86 - s 57)
def q_hl (s : Int → Int) : Int := q_min (s 88) (q_due s)
def q_ou (tm s : Int → Int) : Int := q_min (q_due s - q_hl s) (s 87 - s 87 * tm 4 / 100)
def q_en (tm s : Int → Int) : Int → Int := fun k => if k = 87 then s k + (s 88 - q_hl s - q_ou tm s) else if k = 88 then 0 else if k = 89 then s k + (q_hl s + q_ou tm s) else if k = 91 then 1 else s k
def q_cw (tm s : Int → Int) : Int := if s 91 = 1 then 0 else q_hl s + q_ou tm s
def q_fa (i : Int) (s : Int → Int) : Int → Int := fun k => if k = 5 * i + 4 then 1 else if k = 5 * i + 1 then 0 else s k
def q_ov (i sum : Int) (s : Int → Int) : Int := s (5 * i + 1) * sum / s (5 * i)
def q_mv (i o sum : Int) (s : Int → Int) : Int → Int := fun k => if k = 5 * i + 1 then s k - q_ov i sum s else if k = 5 * o + 1 then s k + q_ov i sum s else if k = 5 * i then s k - sum else if k = 5 * o then s k + sum else s k
def q_fee (m : Nat) (tm s : Int → Int) : Int := q_min (q_sm (fun i => s (5 * i + 1)) m) (tm 6 * q_sm (fun i => s (5 * i)) m / 10000)
def q_pay (m : Nat) (ex : Int → Int) (d sum : Int) (σ : QS) : QS := (q_py m (q_shr m (q_wp ex σ.1 d) sum) σ.1, q_tr m (σ.1 90) (q_shr m (q_wp ex σ.1 d) sum) σ.2.1, σ.2.2)
def q_get (m : Nat) (ex : Int → Int) (d sum : Int) (σ : QS) : QS := (q_gt m (q_shr m (q_wg ex σ.1 d) sum) σ.1, σ.2.1, q_tr m (σ.1 90) (q_shr m (q_wg ex σ.1 d) sum) σ.2.2.1, σ.2.2.2)
def q_sell (m : Nat) (tm ex : Int → Int) (d sum last : Int) (σ : QS) : QS := q_get m ex d (sum - q_slM tm d sum σ.1) (q_sb tm d sum last σ.1, σ.2)
def q_qt (m : Nat) (tm ex : Int → Int) (σ : QS) : QS :=
  (q_qb tm (q_fee m tm σ.1) (q_pay m ex (-1) (q_fee m tm σ.1) σ).1, (q_pay m ex (-1) (q_fee m tm σ.1) σ).2.1, σ.2.2.1, q_up σ.2.2.2 (σ.1 90) (q_fee m tm σ.1))
def q_wn (m : Nat) (tm ex : Int → Int) : Nat → QS → QS
  | 0, σ => σ
  | n + 1, σ => q_qt m tm ex (q_wn m tm ex n σ)
def q_end (m : Nat) (tm ex : Int → Int) (σ : QS) : QS := q_get m ex (-1) (q_hl σ.1 + q_ou tm σ.1) (q_en tm σ.1, σ.2)
def q_do (m : Nat) (tm ex : Int → Int) (kind who sum other : Int) (σ : QS) : QS :=
  if kind = 0 then (q_rs tm who sum (q_pay m ex who sum σ).1, (q_pay m ex who sum σ).2)
  else if kind = 1 then q_sell m tm ex who sum 0 σ
  else if kind = 2 then q_sell m tm ex who sum 1 σ
  else if kind = 3 then (q_up σ.1 (30 + 4 * who + 2) sum, σ.2)
  else if kind = 4 then q_wn m tm ex sum.toNat σ
  else if kind = 5 then (q_fa who σ.1, σ.2)
  else if kind = 7 then (q_mv who other sum σ.1, σ.2)
  else q_end m tm ex σ
/-- what comes by an act to the investors, to the manager -/
def q_th (tm : Int → Int) (kind who sum : Int) (σ : QS) : Int := if kind = 1 ∨ kind = 2 then sum - q_slM tm who sum σ.1 else if kind = 6 then q_hl σ.1 + q_ou tm σ.1 else 0
def q_hr (tm : Int → Int) (kind who sum : Int) (σ : QS) : Int := if kind = 1 ∨ kind = 2 then q_slM tm who sum σ.1 else 0
def q_acl (s : Int → Int) : Nat → Int
  | 0 => 1
  | d + 1 => if s (30 + 4 * d + 3) = 0 then 0 else q_acl s d
def q_cmv (i o sum : Int) (s : Int → Int) : Int := if s (5 * i) ≤ sum then 0 else if 9999 < s (5 * o) + sum then 0 else if s (5 * i + 4) + s (5 * o + 4) = 0 then 1 else 0
def q_can (m dl : Nat) (ex : Int → Int) (kind who sum other : Int) (s : Int → Int) : Int :=
  if m = 0 then 0 else if s 91 = 1 then 0
  else if kind = 0 then (if s (30 + 4 * who + 3) = 0 then (if q_sm (q_wp ex s who) m < sum then 0 else 1) else 0)
  else if kind = 1 then (if s (30 + 4 * who + 3) = 0 then 1 else 0)
  else if kind = 2 then (if s (30 + 4 * who + 3) = 0 then 1 else 0)
  else if kind = 3 then 1
  else if kind = 4 then (if 200 < s 90 + sum then 0 else 1)
  else if kind = 5 then (if s (5 * who + 4) = 0 then 1 else 0)
  else if kind = 6 then q_acl s dl
  else if kind = 7 then q_cmv who other sum s
  else 0
def q_s00 (m : Nat) (pr : Int → Int) : Int → Int := fun k => if 0 ≤ k ∧ k < 5 * m ∧ (k % 5 = 0 ∨ k % 5 = 1) then pr (k / 5) else 0
def q_0 (m : Nat) (pr : Int → Int) : QS := (q_s00 m pr, fun _ => 0, fun _ => 0, fun _ => 0)
/-- the journal's first acts, done one behind the other -/
def q_run (m : Nat) (tm ex pr J : Int → Int) : Nat → QS
  | 0 => q_0 m pr
  | k + 1 => q_do m tm ex (J (5 * k)) (J (5 * k + 1)) (J (5 * k + 2)) (J (5 * k + 4)) (q_run m tm ex pr J k)
/-! where each of these changes what -/
section EV
variable {m : Nat} {pt s : Int → Int}
theorem q_py_0 (i : Int) : q_py m pt s (5 * i) = s (5 * i) := by
  unfold q_py
  split
  · rw [if_neg (by omega), if_neg (by omega)]
  · rfl
theorem q_py_1 {i : Int} (h0 : 0 ≤ i) (h1 : i < m) : q_py m pt s (5 * i + 1) = s (5 * i + 1) - pt i := by
  unfold q_py
  rw [if_pos (by omega), if_pos (by omega), show (5 * i + 1) / 5 = i by omega]
theorem q_py_2 {i : Int} (h0 : 0 ≤ i) (h1 : i < m) : q_py m pt s (5 * i + 2) = s (5 * i + 2) + pt i := by
  unfold q_py
  rw [if_pos (by omega), if_neg (by omega), if_pos (by omega), show (5 * i + 2) / 5 = i by omega]
theorem q_py_3 (i : Int) : q_py m pt s (5 * i + 3) = s (5 * i + 3) := by
  unfold q_py
  split
  · rw [if_neg (by omega), if_neg (by omega)]
  · rfl
theorem q_py_4 (i : Int) : q_py m pt s (5 * i + 4) = s (5 * i + 4) := by
  unfold q_py
  split
  · rw [if_neg (by omega), if_neg (by omega)]
  · rfl
theorem q_py_hi {k : Int} (h : k < 0 ∨ 5 * (m : Int) ≤ k) : q_py m pt s k = s k := if_neg (by omega)
theorem q_gt_3 {i : Int} (h0 : 0 ≤ i) (h1 : i < m) : q_gt m pt s (5 * i + 3) = s (5 * i + 3) + pt i := by
  unfold q_gt
  rw [if_pos (by omega), show (5 * i + 3) / 5 = i by omega]
theorem q_gt_ne {k : Int} (h : k % 5 ≠ 3 ∨ k < 0 ∨ 5 * (m : Int) ≤ k) : q_gt m pt s k = s k := if_neg (by omega)
end EV
theorem q_wt_congr {s s' : Int → Int} {i : Int} (h0 : s (5 * i) = s' (5 * i)) (h4 : s (5 * i + 4) = s' (5 * i + 4)) : q_wt s i = q_wt s' i := by
  unfold q_wt
  rw [h0, h4]
theorem q_wg_congr {ex s s' : Int → Int} {d i : Int} (h0 : s (5 * i) = s' (5 * i)) (h4 : s (5 * i + 4) = s' (5 * i + 4)) : q_wg ex s d i = q_wg ex s' d i := by
  unfold q_wg
  rw [q_wt_congr h0 h4]
theorem q_wp_congr {ex s s' : Int → Int} {d i : Int} (h1 : s (5 * i + 1) = s' (5 * i + 1)) : q_wp ex s d i = q_wp ex s' d i := by
  unfold q_wp
  rw [h1]
