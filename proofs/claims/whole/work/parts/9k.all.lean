/-! ===== all that both hold between calls ===== -/
def m_zz (μ : ZMem) : Prop := q_z 7 (μ 2) ∧ q_z 6 (μ 3) ∧ q_z 6 (μ 4) ∧ q_z 300 (μ 8)
/-- the tape, the fault -/
def z_tp (κ μ : ZMem) : Prop := κ 1 1 = μ 0 21 ∧ (0 ≤ μ 0 21 ∧ μ 0 21 ≤ 400) ∧ (∀ i : Int, 0 ≤ i → i < μ 0 21 → κ 2 i = μ 15 i ∧ 0 ≤ μ 15 i ∧ μ 15 i ≤ 255) ∧ κ 1 3 = μ 0 24
def c_fd (m dl : Nat) (tm ex pr f t p e : Int → Int) : Prop := f 3 = m ∧ f 4 = dl ∧ (f 5 = 0 ∨ f 5 = 1) ∧ (∀ k, 0 ≤ k → k < 7 → t k = tm k) ∧ (∀ i : Int, 0 ≤ i → i < m → p i = pr i) ∧ (∀ d, 0 ≤ d → d < 6 → e d = ex d)
def c_jn (m a : Nat) (tm ex pr J j r : Int → Int) : Prop := j 1 = a ∧ j_rw J a r ∧ (∀ k : Nat, k < a → r (k * 7 + 5) = q_jt tm J k (q_run m tm ex pr J k) ∧ r (k * 7 + 6) = q_jh tm J k (q_run m tm ex pr J k))
def m_im (m dl a : Nat) (tm ex pr J : Int → Int) (k : Int → Int) : Prop := (∀ i, 0 ≤ i → i < 7 → k i = tm i) ∧ (∀ i, 0 ≤ i → i < 6 → k (7 + i) = pr i) ∧ k 13 = m ∧ k 14 = dl ∧ k 15 = a ∧ (∀ i, 0 ≤ i → i < 6 → k (16 + i) = ex i) ∧ (∀ i, 0 ≤ i → i < 300 → k (22 + i) = J i)
/-- the image -/
def z_im (κ μ : ZMem) : Prop := (κ 0 11 = 0 ∧ μ 0 19 = 0) ∨ (κ 0 11 = 1 ∧ μ 0 19 = 1 ∧ ∃ (m dl a : Nat) (tm ex pr J : Int → Int), (q_z 7 tm ∧ q_z 6 pr ∧ q_z 6 ex ∧ q_z 300 J) ∧ q_fu m dl tm ex pr ∧ q_jo m dl tm ex pr J a ∧ c_fd m dl tm ex pr (κ 109) (κ 110) (κ 111) (κ 112) ∧ c_jn m a tm ex pr J (κ 113) (κ 114) ∧ m_im m dl a tm ex pr J (μ 14))
def z_all (m dl a : Nat) (κ μ : ZMem) : Prop := z_rest m dl a κ μ ∧ m_top μ ∧ m_zz μ ∧ z_tp κ μ ∧ z_im κ μ
def c_ff (κ κ' : ZMem) : Prop := ∀ c, c < 3 ∨ 109 ≤ c → κ' c = κ c
def m_ff (μ μ' : ZMem) : Prop := (∀ c, c = 1 ∨ c = 14 ∨ c = 15 → μ' c = μ c) ∧ (∀ k, k = 19 ∨ k = 21 ∨ k = 24 → μ' 0 k = μ 0 k)
section GB
variable {m dl a m' dl' a' : Nat} {κ μ κ' μ' : ZMem}
theorem z_tp.ff (h : z_tp κ μ) (c : c_ff κ κ') (f : m_ff μ μ') : z_tp κ' μ' := by
  unfold z_tp
  rw [c 1 (by decide), c 2 (by decide), f.1 15 (by decide), f.2 21 (by decide), f.2 24 (by decide)]
  exact h
theorem z_im.ff (h : z_im κ μ) (c : c_ff κ κ') (f : m_ff μ μ') : z_im κ' μ' := by
  unfold z_im
  rw [c 0 (by decide), c 109 (by decide), c 110 (by decide), c 111 (by decide), c 112 (by decide), c 113 (by decide), c 114 (by decide), f.1 14 (by decide), f.2 19 (by decide)]
  exact h
theorem m_top.ff (h : m_top μ) (f : m_ff μ μ') : m_top μ' := fun k hk => by rw [f.1 1 (by decide)]; exact h k hk
theorem z_all.f (h : z_all m dl a κ μ) (r : z_rest m' dl' a' κ' μ') (c : c_ff κ κ') (f : m_ff μ μ') (z : m_zz μ') : z_all m' dl' a' κ' μ' := ⟨r, h.2.1.ff f, z, h.2.2.2.1.ff c f, h.2.2.2.2.ff c f⟩
theorem m_zz.fr (h : m_zz μ) (f : m_fr μ μ') : m_zz μ' := by
  unfold m_zz
  rw [f.1 2 (by decide), f.1 3 (by decide), f.1 4 (by decide), f.1 8 (by decide)]
  exact h
theorem z_all.q (h : z_all m dl a κ μ) (c : c_fr κ κ') (f : m_fr μ μ') (M : m_at m dl a μ') : z_all m dl a κ' μ' :=
  h.f ⟨M, by rw [f.1 2 (by decide), f.1 3 (by decide), f.1 4 (by decide), f.1 8 (by decide)]; exact h.1.2.fr c⟩ (fun x hx => c.1 x (by omega)) ⟨fun x hx => f.1 x (by omega), fun k hk => f.2 k (by omega)⟩ (h.2.2.1.fr f)
theorem z_all.up0 (h : z_all m dl a κ μ) (y : Int) : z_all m dl a κ (zUp μ 0 0 y) := h.q (c_fr.rf κ) (m_fr.up0 μ y) (h.1.1.up0 y)
/-- one call of both: alike, and all holds behind it -/
def z_step (cs : List (String × Int)) (Fc Fm : Option ZRes) : Prop := ∃ r κ' v μ' m dl a, Fc = some (r, κ') ∧ Fm = some (.inr (some v), μ') ∧ z_all m dl a κ' μ' ∧ z_ag cs r v (μ' 0 0)
theorem z_face.step {cs : List (String × Int)} {Fc Fm : Option ZRes} (h : z_all m dl a κ μ) (f : z_face cs m dl a κ μ Fc Fm) : z_step cs Fc Fm := by
  obtain ⟨r, κ', v, μ', e1, e2, c, g, M, ag⟩ := f
  exact ⟨r, κ', v, μ', m, dl, a, e1, e2, h.q c g M, ag⟩
theorem z_step.ok {cs : List (String × Int)} {Fc Fm : Option ZRes} {v : ZV} (e1 : Fc = some (.inr (some v), κ')) (e2 : Fm = some (.inr (some v), μ')) (h : z_all m dl a κ' μ') (h0 : μ' 0 0 = 0) : z_step cs Fc Fm := ⟨_, κ', v, μ', m, dl, a, e1, e2, h, Or.inl ⟨rfl, h0⟩⟩
theorem z_step.th {cs : List (String × Int)} {Fc Fm : Option ZRes} {v : ZV} {E : String} {n : Int} (h : z_all m dl a κ μ) (e1 : Fc = some (.inl E, κ)) (e2 : Fm = some (.inr (some v), zUp μ 0 0 n)) (hn : 1 ≤ n ∧ n ≤ 4) (hx : zXl cs E = some n) : z_step cs Fc Fm := ⟨_, _, _, _, m, dl, a, e1, e2, h.up0 n, Or.inr ⟨E, n, rfl, by rw [zUp_at, q_up_at], hn, zXh_hit hx⟩⟩
variable {kd who sum ot code : Int}
theorem zUp_00 (v w : Int) : zUp (zUp μ 0 0 v) 0 0 w = zUp μ 0 0 w := by
  funext c i
  by_cases hc : c = 0
  · subst hc
    rw [zUp_at, zUp_at, zUp_at]
    by_cases hi' : i = 0
    · rw [hi', q_up_at, q_up_at]
    · rw [q_up_ne hi', q_up_ne hi', q_up_ne hi']
  · rw [zUp_ne hc, zUp_ne hc, zUp_ne hc]
theorem z_done (h : z_all m dl a κ μ) (hq : q_ac m dl kd who sum ot) (c1 : 1 ≤ code) (c2 : code ≤ 3) :
    (F_Ledger_done kd who sum ot κ = some (.inl eISE, κ) ∧ F_Model_acts kd who sum ot code μ = some (.inr (some (zI 0)), zUp μ 0 0 code)) ∨
    (F_Ledger_done kd who sum ot κ = some (.inl eUOE, κ) ∧ F_Model_acts kd who sum ot code μ = some (.inr (some (zI 0)), zUp μ 0 0 (code + 1))) ∨
    (q_can m dl (μ 4) kd who sum ot (μ 5) = 1 ∧ ∃ κ' μ', F_Ledger_done kd who sum ot κ = some (.inr (some (zJ (q_an m (μ 2) (μ 4) kd who sum ot (q_run m (μ 2) (μ 4) (μ 3) (μ 8) a)))), κ') ∧ F_Model_acts kd who sum ot code μ = some (.inr (some (zI 1)), μ') ∧ z_all m dl (a + 1) κ' μ' ∧ μ' 0 0 = 0 ∧ μ' 5 = (q_do m (μ 2) (μ 4) kd who sum ot (q_run m (μ 2) (μ 4) (μ 3) (μ 8) a)).1 ∧ μ' 4 = μ 4) := by
  obtain ⟨hf, h6, hdl, ht, ⟨m5, m6, m11, ha⟩, ⟨k3, k4, k11⟩, hi, hq90, hs⟩ := h.1.all
  have M := h.1.1
  have C := h.1.2
  have q2 := M.row.2.2.2.2.2.1
  have ec : F_State_canBe kd who sum ot (zVw plN κ) = some (.inr (some (zI (q_can m dl (μ 4) kd who sum ot (μ 5)))), zVw plN κ) := (s_canBe_w hs.1 hi h6 hdl hq).1
  have em := m_canBe m5 h6 m6 hdl hi hq
  rcases q_can_01 (m := m) (dl := dl) (ex := μ 4) (kd := kd) (who := who) (sum := sum) (ot := ot) (s := μ 5) with g | g
  · refine Or.inl ⟨?_, ?_⟩
    · unfold F_Ledger_done
      rw [ec, zCm_I, g, zMg_vw, w32_of (by decide) (by decide), if_pos rfl]
    · unfold F_Model_acts J_Model_acts_35
      rw [em, zC_I, g, w32_of (by decide) (by decide), if_pos rfl, zLet_eq, zUp_at, q_up_at, w32_of (by omega) (by omega), if_neg (by omega)]
  · refine Or.inr ?_
    by_cases g60 : a = 60
    · refine Or.inl ⟨?_, ?_⟩
      · unfold F_Ledger_done
        rw [ec, zCm_I, g, zMg_vw, w32_of (a := 1) (by decide) (by decide), if_neg (by decide), k11, w32_of (by omega) (by omega), w32_of (by omega) (by omega), if_neg (by omega)]
      · unfold F_Model_acts J_Model_acts_35
        rw [em, zC_I, g, w32_of (a := 1) (by decide) (by decide), if_neg (by decide), m11, w32_of (by omega) (by omega), w32_of (by omega) (by omega), if_pos (by omega), zLet_eq, zUp_at, q_up_at, w32_of (by omega) (by omega), if_neg (by omega)]
    · refine Or.inr ⟨g, ?_⟩
      have M0 := M.up0 0
      have z2 : zUp μ 0 0 0 2 = μ 2 := zUp_ne (by decide)
      have z3 : zUp μ 0 0 0 3 = μ 3 := zUp_ne (by decide)
      have z4 : zUp μ 0 0 0 4 = μ 4 := zUp_ne (by decide)
      have z5 : zUp μ 0 0 0 5 = μ 5 := zUp_ne (by decide)
      have z8 : zUp μ 0 0 0 8 = μ 8 := zUp_ne (by decide)
      obtain ⟨κ', r1, C', f1⟩ := k_write C hf M.2.2.1 (by omega) hq (by rw [← q2]; exact g)
      obtain ⟨μ', r2, M', e8, e5, f2, f0⟩ := m_writesDown M0 (by omega) hq (by rw [z4, z5]; exact g)
      rw [z2, z3, z4, z8] at e5
      rw [z5, z8] at e8
      rw [← q2] at C'
      have g2 : μ' 2 = μ 2 := by rw [f2 2 (by decide), z2]
      have g3 : μ' 3 = μ 3 := by rw [f2 3 (by decide), z3]
      have g4 : μ' 4 = μ 4 := by rw [f2 4 (by decide), z4]
      refine ⟨κ', μ', ?_, ?_, h.f ⟨M', by rw [g2, g3, g4, e8]; exact C'⟩ (fun c hc => f1 c (by omega)) ⟨fun c hc => by rw [f2 c (by omega), zUp_ne (by omega)], fun k hk => by rw [f0 k (by omega) (by omega) (by omega) (by omega), zUp_at, q_up_ne (by omega)]⟩ ?_, ?_, e5, g4⟩
      · unfold F_Ledger_done
        rw [ec, zCm_I, g, zMg_vw, w32_of (a := 1) (by decide) (by decide), if_neg (by decide), k11, w32_of (by omega) (by omega), w32_of (by omega) (by omega), if_pos (by omega), r1, zC_J]
      · unfold F_Model_acts J_Model_acts_35
        rw [em, zC_I, g, w32_of (a := 1) (by decide) (by decide), if_neg (by decide), m11, w32_of (by omega) (by omega), w32_of (by omega) (by omega), if_neg (by omega), zLet_eq, zUp_at, q_up_at, w32_of (by omega) (by omega), if_pos (by omega), r2, zC_V]
      · obtain ⟨y2, y3, y4, y8⟩ := h.2.2.1
        unfold m_zz
        rw [g2, g3, g4, e8]
        refine ⟨y2, y3, y4, fun k hk => ?_⟩
        rcases hk with hk | hk
        · rw [q_jw_lo (by omega)]; exact y8 k (Or.inl hk)
        · rw [q_jw_hi (by omega)]; exact y8 k (Or.inr hk)
      · rw [f0 0 (by decide) (by decide) (by decide) (by decide), zUp_at, q_up_at]
end GB
