def S_Text : List ZSh := [.inl (6, [(2, some 1), (0, none), (0, none), (0, none)]), .inr (0, 400, [])]
theorem S_Text_wf : zWfS S_Text.length S_Text = true ∧ Nat.ble S_Text.length 1000 = true := ⟨by decide +kernel, rfl⟩
/-! WeirLedger$Text.append(I)V -/
def cf_Text_append : ZCf := (yX6_append, cX6_append, 3, none, [], 2, 0, 0, zft_X6, none)
theorem cal_Text_append : zCallee cf_Text_append 1 := ⟨rfl, zc_yX6_append, by decide, by decide, by decide +kernel⟩
def J_Text_append_43 (R : Int → ZMem → Option ZRes) (K : ZMem → Option ZRes) (c1 : Int) (u2 : Int) (μ : ZMem) : Option ZRes := zLet (u2 + (-8)) (fun x1 => R x1 μ)
set_option maxRecDepth 100000 in
theorem j_Text_append_43 {R : Int → ZMem → Option ZRes} {K : ZMem → Option ZRes} (c1 : Int) (hR : ∀ (v2 : Int) (μ : ZMem), AW cf_Text_append S_Text.length S_Text S_Text 3 [(0, zR (some 0)), (1, zI c1), (2, zI v2)] [] μ 0 0 (R v2 μ)) (hK : ∀ (μ : ZMem), AW cf_Text_append S_Text.length S_Text S_Text 49 [] [] μ 0 0 (K μ)) (u2 : Int) (μ : ZMem) : AW cf_Text_append S_Text.length S_Text S_Text 43 [(0, zR (some 0)), (1, zI c1), (2, zI u2)] [] μ 0 0 (J_Text_append_43 R K c1 u2 μ) := by
  unfold J_Text_append_43
  refine AW.iincL (i := 2) (n := -8) (a := u2) (L' := fun x1 => [(2, zI x1), (0, zR (some 0)), (1, zI c1)]) (by decide +kernel) rfl (by decide) (fun _ => rfl) (fun x1 => (?_ : AW _ _ _ _ 46 _ _ _ _ _ _))
  refine AW.goto (off := -43) (tgt := 3) (by decide +kernel) (by decide) ?_
  refine AW.sub (L' := [(0, zR (some 0)), (1, zI c1), (2, zI x1)]) [1, 2, 0] rfl ?_
  exact hR x1 μ
def L_Text_append_3 (c1 : Int) (K : ZMem → Option ZRes) : Nat → Int → ZMem → Option ZRes
  | 0, _, _ => none
  | n + 1, v2, μ => if w32 v2 < 0 then (K  μ) else (if w32 400 ≤ w32 (μ 0 1) then (J_Text_append_43 (fun v2 μ => L_Text_append_3 c1 K n v2 μ) K c1 v2 μ) else (zWr μ 1 400 (μ 0 1) (zand (zushr c1 v2) 255) (fun μ2 => zLet (zUp μ2 0 1 ((μ2 0 1) + 1)) (fun μ3 => J_Text_append_43 (fun v2 μ => L_Text_append_3 c1 K n v2 μ) K c1 v2 μ3))))
set_option maxRecDepth 100000 in
theorem l_Text_append_3 {c1 : Int} {K : ZMem → Option ZRes} (hK : ∀ (μ : ZMem), AW cf_Text_append S_Text.length S_Text S_Text 49 [] [] μ 0 0 (K μ)) : ∀ (n : Nat) (v2 : Int) (μ : ZMem), AW cf_Text_append S_Text.length S_Text S_Text 3 [(0, zR (some 0)), (1, zI c1), (2, zI v2)] [] μ 0 0 (L_Text_append_3 c1 K n v2 μ) := by
  intro n
  induction n with
  | zero => intro v2 μ; exact AW.noth
  | succ n ih =>
    intro v2 μ
    rw [L_Text_append_3]
    refine AW.iload_n (i := 2) (a := v2) (by decide +kernel) rfl (?_ : AW _ _ _ _ 4 _ _ _ _ _ _)
    refine AW.if_lt (off := 45) (tgt := 49) (by decide +kernel) (by decide) (fun _ => ?_) (fun _ => ?_)
    · refine AW.sub (L' := []) [] rfl ?_
      exact hK  μ
    · refine AW.aload_n (i := 0) (a := 0) (by decide +kernel) rfl (?_ : AW _ _ _ _ 8 _ _ _ _ _ _)
      refine AW.getI (idx := 19) (ci := 6) (k := 1) (r := 0) (by decide +kernel) rfl rfl rfl (?_ : AW _ _ _ _ 11 _ _ _ _ _ _)
      refine AW.sipush (n := 400) (by decide +kernel) (by decide +kernel) (?_ : AW _ _ _ _ 14 _ _ _ _ _ _)
      refine AW.icmp_ge (off := 29) (tgt := 43) (by decide +kernel) (by decide) (fun _ => ?_) (fun _ => ?_)
      · exact j_Text_append_43 c1 ih hK v2 μ
      · refine AW.aload_n (i := 0) (a := 0) (by decide +kernel) rfl (?_ : AW _ _ _ _ 18 _ _ _ _ _ _)
        refine AW.getR (idx := 9) (ci := 6) (k := 0) (r := 0) (by decide +kernel) rfl rfl rfl (?_ : AW _ _ _ _ 21 _ _ _ _ _ _)
        refine AW.aload_n (i := 0) (a := 0) (by decide +kernel) rfl (?_ : AW _ _ _ _ 22 _ _ _ _ _ _)
        refine AW.getI (idx := 19) (ci := 6) (k := 1) (r := 0) (by decide +kernel) rfl rfl rfl (?_ : AW _ _ _ _ 25 _ _ _ _ _ _)
        refine AW.iload_n (i := 1) (a := c1) (by decide +kernel) rfl (?_ : AW _ _ _ _ 26 _ _ _ _ _ _)
        refine AW.iload_n (i := 2) (a := v2) (by decide +kernel) rfl (?_ : AW _ _ _ _ 27 _ _ _ _ _ _)
        refine AW.iushr (by decide +kernel) (?_ : AW _ _ _ _ 28 _ _ _ _ _ _)
        refine AW.sipush (n := 255) (by decide +kernel) (by decide +kernel) (?_ : AW _ _ _ _ 31 _ _ _ _ _ _)
        refine AW.iand (by decide +kernel) (?_ : AW _ _ _ _ 32 _ _ _ _ _ _)
        refine AW.iastL (r := 1) (by decide +kernel) rfl (fun μ2 => (?_ : AW _ _ _ _ 33 _ _ _ _ _ _))
        refine AW.aload_n (i := 0) (a := 0) (by decide +kernel) rfl (?_ : AW _ _ _ _ 34 _ _ _ _ _ _)
        refine AW.dup (by decide +kernel) rfl (?_ : AW _ _ _ _ 35 _ _ _ _ _ _)
        refine AW.getI (idx := 19) (ci := 6) (k := 1) (r := 0) (by decide +kernel) rfl rfl rfl (?_ : AW _ _ _ _ 38 _ _ _ _ _ _)
        refine AW.iconst (n := 1) (by decide +kernel) (?_ : AW _ _ _ _ 39 _ _ _ _ _ _)
        refine AW.iadd (by decide +kernel) (?_ : AW _ _ _ _ 40 _ _ _ _ _ _)
        refine AW.putiL (idx := 19) (ci := 6) (k := 1) (r := 0) (by decide +kernel) rfl rfl rfl (fun μ3 => (?_ : AW _ _ _ _ 43 _ _ _ _ _ _))
        exact j_Text_append_43 c1 ih hK v2 μ3
def F_Text_append (a1 : Int) (μ : ZMem) : Option ZRes := L_Text_append_3 a1 (fun μ4 => some (.inr none, μ4)) zN 24 μ
set_option maxRecDepth 100000 in
theorem w_Text_append (a1 : Int) (μ : ZMem) : AW cf_Text_append S_Text.length S_Text S_Text 0 [(0, zR (some 0)), (1, zI a1)] [] μ 0 0 (F_Text_append a1 μ) := by
  unfold F_Text_append
  refine AW.bipush (n := 24) (by decide +kernel) (by decide +kernel) (?_ : AW _ _ _ _ 2 _ _ _ _ _ _)
  refine AW.istore_n' (i := 2) (L' := [(2, zI 24), (0, zR (some 0)), (1, zI a1)]) (by decide +kernel) (by decide) rfl (?_ : AW _ _ _ _ 3 _ _ _ _ _ _)
  refine AW.sub (L' := [(0, zR (some 0)), (1, zI a1), (2, zI 24)]) [1, 2, 0] rfl ?_
  refine l_Text_append_3 (fun μ4 => ?_) zN _ _
  exact AW.retv (by decide +kernel) rfl (by decide) (by decide)
theorem c_Text_append (l : Launch) (hl : l.stackTraces = false) (a1 : Int) (μ : ZMem) (r : ZRes) (h : F_Text_append a1 μ = some r) : ZC l cf_Text_append S_Text S_Text [zR (some 0), zI a1] μ r := ZC.of hl (by decide +kernel) rfl rfl zft_X6_ok (Nat.le_of_ble_eq_true rfl) h (w_Text_append a1 μ)
/-! WeirLedger$Text.rewind()V -/
def cf_Text_rewind : ZCf := (yX6_rewind, cX6_rewind, 1, none, [], 2, 0, 0, zft_X6, none)
theorem cal_Text_rewind : zCallee cf_Text_rewind 0 := ⟨rfl, zc_yX6_rewind, by decide, by decide, by decide +kernel⟩
def F_Text_rewind (μ : ZMem) : Option ZRes := zLet (zUp μ 0 2 0) (fun μ1 => zLet (zUp μ1 0 3 (-1)) (fun μ2 => some (.inr none, μ2)))
set_option maxRecDepth 100000 in
theorem w_Text_rewind (μ : ZMem) : AW cf_Text_rewind S_Text.length S_Text S_Text 0 [(0, zR (some 0))] [] μ 0 0 (F_Text_rewind μ) := by
  unfold F_Text_rewind
  refine AW.aload_n (i := 0) (a := 0) (by decide +kernel) rfl (?_ : AW _ _ _ _ 1 _ _ _ _ _ _)
  refine AW.iconst (n := 0) (by decide +kernel) (?_ : AW _ _ _ _ 2 _ _ _ _ _ _)
  refine AW.putiL (idx := 22) (ci := 6) (k := 2) (r := 0) (by decide +kernel) rfl rfl rfl (fun μ1 => (?_ : AW _ _ _ _ 5 _ _ _ _ _ _))
  refine AW.aload_n (i := 0) (a := 0) (by decide +kernel) rfl (?_ : AW _ _ _ _ 6 _ _ _ _ _ _)
  refine AW.iconst (n := -1) (by decide +kernel) (?_ : AW _ _ _ _ 7 _ _ _ _ _ _)
  refine AW.putiL (idx := 15) (ci := 6) (k := 3) (r := 0) (by decide +kernel) rfl rfl rfl (fun μ2 => (?_ : AW _ _ _ _ 10 _ _ _ _ _ _))
  exact AW.retv (by decide +kernel) rfl (by decide) (by decide)
theorem c_Text_rewind (l : Launch) (hl : l.stackTraces = false) (μ : ZMem) (r : ZRes) (h : F_Text_rewind μ = some r) : ZC l cf_Text_rewind S_Text S_Text [zR (some 0)] μ r := ZC.of hl (by decide +kernel) rfl rfl zft_X6_ok (Nat.le_of_ble_eq_true rfl) h (w_Text_rewind μ)
/-! WeirLedger$Text.isRight()Z -/
def cf_Text_isRight : ZCf := (yX6_isRight, cX6_isRight, 1, some .boolean, [], 2, 0, 0, zft_X6, none)
theorem cal_Text_isRight : zCallee cf_Text_isRight 0 := ⟨rfl, zc_yX6_isRight, by decide, by decide, by decide +kernel⟩
def F_Text_isRight (μ : ZMem) : Option ZRes := if w32 (μ 0 3) = w32 (-1) then (some (.inr (some (zI 1)), μ)) else (some (.inr (some (zI 0)), μ))
set_option maxRecDepth 100000 in
theorem w_Text_isRight (μ : ZMem) : AW cf_Text_isRight S_Text.length S_Text S_Text 0 [(0, zR (some 0))] [] μ 0 0 (F_Text_isRight μ) := by
  unfold F_Text_isRight
  refine AW.aload_n (i := 0) (a := 0) (by decide +kernel) rfl (?_ : AW _ _ _ _ 1 _ _ _ _ _ _)
  refine AW.getI (idx := 15) (ci := 6) (k := 3) (r := 0) (by decide +kernel) rfl rfl rfl (?_ : AW _ _ _ _ 4 _ _ _ _ _ _)
  refine AW.iconst (n := -1) (by decide +kernel) (?_ : AW _ _ _ _ 5 _ _ _ _ _ _)
  refine AW.icmp_ne (off := 7) (tgt := 12) (by decide +kernel) (by decide) (fun _ => ?_) (fun _ => ?_)
  · refine AW.iconst (n := 1) (by decide +kernel) (?_ : AW _ _ _ _ 9 _ _ _ _ _ _)
    refine AW.goto (off := 4) (tgt := 13) (by decide +kernel) (by decide) ?_
    exact AW.retb1 (by decide +kernel) rfl (by decide) (by decide) (by decide)
  · refine AW.iconst (n := 0) (by decide +kernel) (?_ : AW _ _ _ _ 13 _ _ _ _ _ _)
    exact AW.retb1 (by decide +kernel) rfl (by decide) (by decide) (by decide)
theorem c_Text_isRight (l : Launch) (hl : l.stackTraces = false) (μ : ZMem) (r : ZRes) (h : F_Text_isRight μ = some r) : ZC l cf_Text_isRight S_Text S_Text [zR (some 0)] μ r := ZC.of hl (by decide +kernel) rfl rfl zft_X6_ok (Nat.le_of_ble_eq_true rfl) h (w_Text_isRight μ)
/-! WeirLedger$Text.refuse(I)Z -/
def cf_Text_refuse : ZCf := (yX6_refuse, cX6_refuse, 2, some .boolean, [], 2, 0, 0, zft_X6, none)
theorem cal_Text_refuse : zCallee cf_Text_refuse 1 := ⟨rfl, zc_yX6_refuse, by decide, by decide, by decide +kernel⟩
def F_Text_refuse (a1 : Int) (μ : ZMem) : Option ZRes := zLet (zUp μ 0 3 a1) (fun μ1 => some (.inr (some (zI 0)), μ1))
set_option maxRecDepth 100000 in
theorem w_Text_refuse (a1 : Int) (μ : ZMem) : AW cf_Text_refuse S_Text.length S_Text S_Text 0 [(0, zR (some 0)), (1, zI a1)] [] μ 0 0 (F_Text_refuse a1 μ) := by
  unfold F_Text_refuse
  refine AW.aload_n (i := 0) (a := 0) (by decide +kernel) rfl (?_ : AW _ _ _ _ 1 _ _ _ _ _ _)
  refine AW.iload_n (i := 1) (a := a1) (by decide +kernel) rfl (?_ : AW _ _ _ _ 2 _ _ _ _ _ _)
  refine AW.putiL (idx := 15) (ci := 6) (k := 3) (r := 0) (by decide +kernel) rfl rfl rfl (fun μ1 => (?_ : AW _ _ _ _ 5 _ _ _ _ _ _))
  refine AW.iconst (n := 0) (by decide +kernel) (?_ : AW _ _ _ _ 6 _ _ _ _ _ _)
  exact AW.retb1 (by decide +kernel) rfl (by decide) (by decide) (by decide)
theorem c_Text_refuse (l : Launch) (hl : l.stackTraces = false) (a1 : Int) (μ : ZMem) (r : ZRes) (h : F_Text_refuse a1 μ = some r) : ZC l cf_Text_refuse S_Text S_Text [zR (some 0), zI a1] μ r := ZC.of hl (by decide +kernel) rfl rfl zft_X6_ok (Nat.le_of_ble_eq_true rfl) h (w_Text_refuse a1 μ)
/-! WeirLedger$Text.next()I -/
def cf_Text_next : ZCf := (yX6_next, cX6_next, 1, some .int, [], 2, 0, 0, zft_X6, none)
theorem cal_Text_next : zCallee cf_Text_next 0 := ⟨rfl, zc_yX6_next, by decide, by decide, by decide +kernel⟩
def L_Text_next_0 (K : ZMem → Option ZRes) : Nat → ZMem → Option ZRes
  | 0, _ => none
  | n + 1, μ => if w32 (μ 0 1) ≤ w32 (μ 0 2) then (K  μ) else (zRd μ 1 400 (μ 0 2) (fun x3 => if w32 x3 = w32 32 then (zLet (zUp μ 0 2 ((μ 0 2) + 1)) (fun μ4 => L_Text_next_0 K n  μ4)) else (K  μ)))
set_option maxRecDepth 100000 in
theorem l_Text_next_0 {K : ZMem → Option ZRes} (hK : ∀ (μ : ZMem), AW cf_Text_next S_Text.length S_Text S_Text 38 [(0, zR (some 0))] [] μ 0 0 (K μ)) : ∀ (n : Nat) (μ : ZMem), AW cf_Text_next S_Text.length S_Text S_Text 0 [(0, zR (some 0))] [] μ 0 0 (L_Text_next_0 K n μ) := by
  intro n
  induction n with
  | zero => intro μ; exact AW.noth
  | succ n ih =>
    intro μ
    rw [L_Text_next_0]
    refine AW.aload_n (i := 0) (a := 0) (by decide +kernel) rfl (?_ : AW _ _ _ _ 1 _ _ _ _ _ _)
    refine AW.getI (idx := 22) (ci := 6) (k := 2) (r := 0) (by decide +kernel) rfl rfl rfl (?_ : AW _ _ _ _ 4 _ _ _ _ _ _)
    refine AW.aload_n (i := 0) (a := 0) (by decide +kernel) rfl (?_ : AW _ _ _ _ 5 _ _ _ _ _ _)
    refine AW.getI (idx := 19) (ci := 6) (k := 1) (r := 0) (by decide +kernel) rfl rfl rfl (?_ : AW _ _ _ _ 8 _ _ _ _ _ _)
    refine AW.icmp_ge (off := 30) (tgt := 38) (by decide +kernel) (by decide) (fun _ => ?_) (fun _ => ?_)
    · exact hK  μ
    · refine AW.aload_n (i := 0) (a := 0) (by decide +kernel) rfl (?_ : AW _ _ _ _ 12 _ _ _ _ _ _)
      refine AW.getR (idx := 9) (ci := 6) (k := 0) (r := 0) (by decide +kernel) rfl rfl rfl (?_ : AW _ _ _ _ 15 _ _ _ _ _ _)
      refine AW.aload_n (i := 0) (a := 0) (by decide +kernel) rfl (?_ : AW _ _ _ _ 16 _ _ _ _ _ _)
      refine AW.getI (idx := 22) (ci := 6) (k := 2) (r := 0) (by decide +kernel) rfl rfl rfl (?_ : AW _ _ _ _ 19 _ _ _ _ _ _)
      refine AW.iald (r := 1) (by decide +kernel) rfl (fun x3 => (?_ : AW _ _ _ _ 20 _ _ _ _ _ _))
      refine AW.bipush (n := 32) (by decide +kernel) (by decide +kernel) (?_ : AW _ _ _ _ 22 _ _ _ _ _ _)
      refine AW.icmp_ne (off := 16) (tgt := 38) (by decide +kernel) (by decide) (fun _ => ?_) (fun _ => ?_)
      · refine AW.aload_n (i := 0) (a := 0) (by decide +kernel) rfl (?_ : AW _ _ _ _ 26 _ _ _ _ _ _)
        refine AW.dup (by decide +kernel) rfl (?_ : AW _ _ _ _ 27 _ _ _ _ _ _)
        refine AW.getI (idx := 22) (ci := 6) (k := 2) (r := 0) (by decide +kernel) rfl rfl rfl (?_ : AW _ _ _ _ 30 _ _ _ _ _ _)
        refine AW.iconst (n := 1) (by decide +kernel) (?_ : AW _ _ _ _ 31 _ _ _ _ _ _)
        refine AW.iadd (by decide +kernel) (?_ : AW _ _ _ _ 32 _ _ _ _ _ _)
        refine AW.putiL (idx := 22) (ci := 6) (k := 2) (r := 0) (by decide +kernel) rfl rfl rfl (fun μ4 => (?_ : AW _ _ _ _ 35 _ _ _ _ _ _))
        refine AW.goto (off := -35) (tgt := 0) (by decide +kernel) (by decide) ?_
        exact ih  μ4
      · exact hK  μ
def F_Text_next (μ : ZMem) : Option ZRes := if w32 (μ 0 1) ≤ w32 (μ 0 2) then (some (.inr (some (zI (μ 0 2))), μ)) else (zRd μ 1 400 (μ 0 2) (fun x1 => if w32 x1 = w32 32 then (zLet (zUp μ 0 2 ((μ 0 2) + 1)) (fun μ2 => L_Text_next_0 (fun μ5 => some (.inr (some (zI (μ5 0 2))), μ5)) zN  μ2)) else (some (.inr (some (zI (μ 0 2))), μ))))
set_option maxRecDepth 100000 in
theorem w_Text_next (μ : ZMem) : AW cf_Text_next S_Text.length S_Text S_Text 0 [(0, zR (some 0))] [] μ 0 0 (F_Text_next μ) := by
  unfold F_Text_next
  refine AW.aload_n (i := 0) (a := 0) (by decide +kernel) rfl (?_ : AW _ _ _ _ 1 _ _ _ _ _ _)
  refine AW.getI (idx := 22) (ci := 6) (k := 2) (r := 0) (by decide +kernel) rfl rfl rfl (?_ : AW _ _ _ _ 4 _ _ _ _ _ _)
  refine AW.aload_n (i := 0) (a := 0) (by decide +kernel) rfl (?_ : AW _ _ _ _ 5 _ _ _ _ _ _)
  refine AW.getI (idx := 19) (ci := 6) (k := 1) (r := 0) (by decide +kernel) rfl rfl rfl (?_ : AW _ _ _ _ 8 _ _ _ _ _ _)
  refine AW.icmp_ge (off := 30) (tgt := 38) (by decide +kernel) (by decide) (fun _ => ?_) (fun _ => ?_)
  · refine AW.aload_n (i := 0) (a := 0) (by decide +kernel) rfl (?_ : AW _ _ _ _ 39 _ _ _ _ _ _)
    refine AW.getI (idx := 22) (ci := 6) (k := 2) (r := 0) (by decide +kernel) rfl rfl rfl (?_ : AW _ _ _ _ 42 _ _ _ _ _ _)
    exact AW.reti (by decide +kernel) rfl (by decide) (by decide)
  · refine AW.aload_n (i := 0) (a := 0) (by decide +kernel) rfl (?_ : AW _ _ _ _ 12 _ _ _ _ _ _)
    refine AW.getR (idx := 9) (ci := 6) (k := 0) (r := 0) (by decide +kernel) rfl rfl rfl (?_ : AW _ _ _ _ 15 _ _ _ _ _ _)
    refine AW.aload_n (i := 0) (a := 0) (by decide +kernel) rfl (?_ : AW _ _ _ _ 16 _ _ _ _ _ _)
    refine AW.getI (idx := 22) (ci := 6) (k := 2) (r := 0) (by decide +kernel) rfl rfl rfl (?_ : AW _ _ _ _ 19 _ _ _ _ _ _)
    refine AW.iald (r := 1) (by decide +kernel) rfl (fun x1 => (?_ : AW _ _ _ _ 20 _ _ _ _ _ _))
    refine AW.bipush (n := 32) (by decide +kernel) (by decide +kernel) (?_ : AW _ _ _ _ 22 _ _ _ _ _ _)
    refine AW.icmp_ne (off := 16) (tgt := 38) (by decide +kernel) (by decide) (fun _ => ?_) (fun _ => ?_)
    · refine AW.aload_n (i := 0) (a := 0) (by decide +kernel) rfl (?_ : AW _ _ _ _ 26 _ _ _ _ _ _)
      refine AW.dup (by decide +kernel) rfl (?_ : AW _ _ _ _ 27 _ _ _ _ _ _)
      refine AW.getI (idx := 22) (ci := 6) (k := 2) (r := 0) (by decide +kernel) rfl rfl rfl (?_ : AW _ _ _ _ 30 _ _ _ _ _ _)
      refine AW.iconst (n := 1) (by decide +kernel) (?_ : AW _ _ _ _ 31 _ _ _ _ _ _)
      refine AW.iadd (by decide +kernel) (?_ : AW _ _ _ _ 32 _ _ _ _ _ _)
      refine AW.putiL (idx := 22) (ci := 6) (k := 2) (r := 0) (by decide +kernel) rfl rfl rfl (fun μ2 => (?_ : AW _ _ _ _ 35 _ _ _ _ _ _))
      refine AW.goto (off := -35) (tgt := 0) (by decide +kernel) (by decide) ?_
      refine l_Text_next_0 (fun μ5 => ?_) zN _
      refine AW.aload_n (i := 0) (a := 0) (by decide +kernel) rfl (?_ : AW _ _ _ _ 39 _ _ _ _ _ _)
      refine AW.getI (idx := 22) (ci := 6) (k := 2) (r := 0) (by decide +kernel) rfl rfl rfl (?_ : AW _ _ _ _ 42 _ _ _ _ _ _)
      exact AW.reti (by decide +kernel) rfl (by decide) (by decide)
    · refine AW.aload_n (i := 0) (a := 0) (by decide +kernel) rfl (?_ : AW _ _ _ _ 39 _ _ _ _ _ _)
      refine AW.getI (idx := 22) (ci := 6) (k := 2) (r := 0) (by decide +kernel) rfl rfl rfl (?_ : AW _ _ _ _ 42 _ _ _ _ _ _)
      exact AW.reti (by decide +kernel) rfl (by decide) (by decide)
theorem c_Text_next (l : Launch) (hl : l.stackTraces = false) (μ : ZMem) (r : ZRes) (h : F_Text_next μ = some r) : ZC l cf_Text_next S_Text S_Text [zR (some 0)] μ r := ZC.of hl (by decide +kernel) rfl rfl zft_X6_ok (Nat.le_of_ble_eq_true rfl) h (w_Text_next μ)
/-! WeirLedger$Text.refuseNext()Z -/
def cf_Text_refuseNext : ZCf := (yX6_refuseNext, cX6_refuseNext, 1, some .boolean, [], 3, 0, 0, zft_X6, none)
theorem cal_Text_refuseNext : zCallee cf_Text_refuseNext 0 := ⟨rfl, zc_yX6_refuseNext, by decide, by decide, by decide +kernel⟩
def F_Text_refuseNext (μ : ZMem) : Option ZRes := zC (F_Text_next  μ) (zkI (fun x2 μ1 => zC (F_Text_refuse x2 μ1) (zkI (fun x4 μ3 => if x4 = 0 ∨ x4 = 1 then some (.inr (some (zI x4)), μ3) else none)) zX0)) zX0
set_option maxRecDepth 100000 in
theorem w_Text_refuseNext (μ : ZMem) : AW cf_Text_refuseNext S_Text.length S_Text S_Text 0 [(0, zR (some 0))] [] μ 0 0 (F_Text_refuseNext μ) := by
  unfold F_Text_refuseNext
  refine AW.aload_n (i := 0) (a := 0) (by decide +kernel) rfl (?_ : AW _ _ _ _ 1 _ _ _ _ _ _)
  refine AW.aload_n (i := 0) (a := 0) (by decide +kernel) rfl (?_ : AW _ _ _ _ 2 _ _ _ _ _ _)
  refine AW.callVw (g := cf_Text_next) (av := []) (b0 := 0) (ci := 6) (idx := 25) (n := 0) (st := [zR (some 0)]) (by decide +kernel) (fun l hl r hr => c_Text_next l hl  _ r hr) S_Text_wf rfl cal_Text_next rfl (zw4 zm_X6_25 zi_yX6_next zs_yX6_next zn_X6) rfl rfl ⟨by decide, by decide, by decide, by decide⟩ (Nat.le_of_ble_eq_true rfl) (Or.inl rfl) (fun v μ1 => AW.kI (fun x2 => (?_ : AW _ _ _ _ 5 _ _ _ _ _ _)) v)
  refine AW.callVw (g := cf_Text_refuse) (av := [zI x2]) (b0 := 0) (ci := 6) (idx := 29) (n := 1) (st := []) (by decide +kernel) (fun l hl r hr => c_Text_refuse l hl x2 _ r hr) S_Text_wf rfl cal_Text_refuse rfl (zw4 zm_X6_29 zi_yX6_refuse zs_yX6_refuse zn_X6) rfl rfl ⟨by decide, by decide, by decide, by decide⟩ (Nat.le_of_ble_eq_true rfl) (Or.inl rfl) (fun v μ3 => AW.kI (fun x4 => (?_ : AW _ _ _ _ 8 _ _ _ _ _ _)) v)
  exact AW.retb (by decide +kernel) rfl (by decide) (by decide)
theorem c_Text_refuseNext (l : Launch) (hl : l.stackTraces = false) (μ : ZMem) (r : ZRes) (h : F_Text_refuseNext μ = some r) : ZC l cf_Text_refuseNext S_Text S_Text [zR (some 0)] μ r := ZC.of hl (by decide +kernel) rfl rfl zft_X6_ok (Nat.le_of_ble_eq_true rfl) h (w_Text_refuseNext μ)
/-! WeirLedger$Text.isThrough()Z -/
def cf_Text_isThrough : ZCf := (yX6_isThrough, cX6_isThrough, 1, some .boolean, [], 3, 0, 0, zft_X6, none)
theorem cal_Text_isThrough : zCallee cf_Text_isThrough 0 := ⟨rfl, zc_yX6_isThrough, by decide, by decide, by decide +kernel⟩
def F_Text_isThrough (μ : ZMem) : Option ZRes := zC (F_Text_next  μ) (zkI (fun x2 μ1 => if w32 x2 = w32 (μ1 0 1) then (some (.inr (some (zI 1)), μ1)) else (some (.inr (some (zI 0)), μ1)))) zX0
set_option maxRecDepth 100000 in
theorem w_Text_isThrough (μ : ZMem) : AW cf_Text_isThrough S_Text.length S_Text S_Text 0 [(0, zR (some 0))] [] μ 0 0 (F_Text_isThrough μ) := by
  unfold F_Text_isThrough
  refine AW.aload_n (i := 0) (a := 0) (by decide +kernel) rfl (?_ : AW _ _ _ _ 1 _ _ _ _ _ _)
  refine AW.callVw (g := cf_Text_next) (av := []) (b0 := 0) (ci := 6) (idx := 25) (n := 0) (st := []) (by decide +kernel) (fun l hl r hr => c_Text_next l hl  _ r hr) S_Text_wf rfl cal_Text_next rfl (zw4 zm_X6_25 zi_yX6_next zs_yX6_next zn_X6) rfl rfl ⟨by decide, by decide, by decide, by decide⟩ (Nat.le_of_ble_eq_true rfl) (Or.inl rfl) (fun v μ1 => AW.kI (fun x2 => (?_ : AW _ _ _ _ 4 _ _ _ _ _ _)) v)
  refine AW.aload_n (i := 0) (a := 0) (by decide +kernel) rfl (?_ : AW _ _ _ _ 5 _ _ _ _ _ _)
  refine AW.getI (idx := 19) (ci := 6) (k := 1) (r := 0) (by decide +kernel) rfl rfl rfl (?_ : AW _ _ _ _ 8 _ _ _ _ _ _)
  refine AW.icmp_ne (off := 7) (tgt := 15) (by decide +kernel) (by decide) (fun _ => ?_) (fun _ => ?_)
  · refine AW.iconst (n := 1) (by decide +kernel) (?_ : AW _ _ _ _ 12 _ _ _ _ _ _)
    refine AW.goto (off := 4) (tgt := 16) (by decide +kernel) (by decide) ?_
    exact AW.retb1 (by decide +kernel) rfl (by decide) (by decide) (by decide)
  · refine AW.iconst (n := 0) (by decide +kernel) (?_ : AW _ _ _ _ 16 _ _ _ _ _ _)
    exact AW.retb1 (by decide +kernel) rfl (by decide) (by decide) (by decide)
theorem c_Text_isThrough (l : Launch) (hl : l.stackTraces = false) (μ : ZMem) (r : ZRes) (h : F_Text_isThrough μ = some r) : ZC l cf_Text_isThrough S_Text S_Text [zR (some 0)] μ r := ZC.of hl (by decide +kernel) rfl rfl zft_X6_ok (Nat.le_of_ble_eq_true rfl) h (w_Text_isThrough μ)
/-! WeirLedger$Text.takeSemicolon()Z -/
def cf_Text_takeSemicolon : ZCf := (yX6_takeSemicolon, cX6_takeSemicolon, 1, some .boolean, [], 4, 0, 0, zft_X6, none)
theorem cal_Text_takeSemicolon : zCallee cf_Text_takeSemicolon 0 := ⟨rfl, zc_yX6_takeSemicolon, by decide, by decide, by decide +kernel⟩
def F_Text_takeSemicolon (μ : ZMem) : Option ZRes := zC (F_Text_isThrough  μ) (zkI (fun x2 μ1 => if w32 x2 = 0 then (zRd μ1 1 400 (μ1 0 2) (fun x3 => if w32 x3 = w32 59 then (zLet (zUp μ1 0 2 ((μ1 0 2) + 1)) (fun μ4 => some (.inr (some (zI 1)), μ4))) else (some (.inr (some (zI 0)), μ1)))) else (some (.inr (some (zI 0)), μ1)))) zX0
set_option maxRecDepth 100000 in
theorem w_Text_takeSemicolon (μ : ZMem) : AW cf_Text_takeSemicolon S_Text.length S_Text S_Text 0 [(0, zR (some 0))] [] μ 0 0 (F_Text_takeSemicolon μ) := by
  unfold F_Text_takeSemicolon
  refine AW.aload_n (i := 0) (a := 0) (by decide +kernel) rfl (?_ : AW _ _ _ _ 1 _ _ _ _ _ _)
  refine AW.callVw (g := cf_Text_isThrough) (av := []) (b0 := 0) (ci := 6) (idx := 33) (n := 0) (st := []) (by decide +kernel) (fun l hl r hr => c_Text_isThrough l hl  _ r hr) S_Text_wf rfl cal_Text_isThrough rfl (zw4 zm_X6_33 zi_yX6_isThrough zs_yX6_isThrough zn_X6) rfl rfl ⟨by decide, by decide, by decide, by decide⟩ (Nat.le_of_ble_eq_true rfl) (Or.inl rfl) (fun v μ1 => AW.kI (fun x2 => (?_ : AW _ _ _ _ 4 _ _ _ _ _ _)) v)
  refine AW.if_ne (off := 17) (tgt := 21) (by decide +kernel) (by decide) (fun _ => ?_) (fun _ => ?_)
  · refine AW.aload_n (i := 0) (a := 0) (by decide +kernel) rfl (?_ : AW _ _ _ _ 8 _ _ _ _ _ _)
    refine AW.getR (idx := 9) (ci := 6) (k := 0) (r := 0) (by decide +kernel) rfl rfl rfl (?_ : AW _ _ _ _ 11 _ _ _ _ _ _)
    refine AW.aload_n (i := 0) (a := 0) (by decide +kernel) rfl (?_ : AW _ _ _ _ 12 _ _ _ _ _ _)
    refine AW.getI (idx := 22) (ci := 6) (k := 2) (r := 0) (by decide +kernel) rfl rfl rfl (?_ : AW _ _ _ _ 15 _ _ _ _ _ _)
    refine AW.iald (r := 1) (by decide +kernel) rfl (fun x3 => (?_ : AW _ _ _ _ 16 _ _ _ _ _ _))
    refine AW.bipush (n := 59) (by decide +kernel) (by decide +kernel) (?_ : AW _ _ _ _ 18 _ _ _ _ _ _)
    refine AW.icmp_eq (off := 5) (tgt := 23) (by decide +kernel) (by decide) (fun _ => ?_) (fun _ => ?_)
    · refine AW.aload_n (i := 0) (a := 0) (by decide +kernel) rfl (?_ : AW _ _ _ _ 24 _ _ _ _ _ _)
      refine AW.dup (by decide +kernel) rfl (?_ : AW _ _ _ _ 25 _ _ _ _ _ _)
      refine AW.getI (idx := 22) (ci := 6) (k := 2) (r := 0) (by decide +kernel) rfl rfl rfl (?_ : AW _ _ _ _ 28 _ _ _ _ _ _)
      refine AW.iconst (n := 1) (by decide +kernel) (?_ : AW _ _ _ _ 29 _ _ _ _ _ _)
      refine AW.iadd (by decide +kernel) (?_ : AW _ _ _ _ 30 _ _ _ _ _ _)
      refine AW.putiL (idx := 22) (ci := 6) (k := 2) (r := 0) (by decide +kernel) rfl rfl rfl (fun μ4 => (?_ : AW _ _ _ _ 33 _ _ _ _ _ _))
      refine AW.iconst (n := 1) (by decide +kernel) (?_ : AW _ _ _ _ 34 _ _ _ _ _ _)
      exact AW.retb1 (by decide +kernel) rfl (by decide) (by decide) (by decide)
    · refine AW.iconst (n := 0) (by decide +kernel) (?_ : AW _ _ _ _ 22 _ _ _ _ _ _)
      exact AW.retb1 (by decide +kernel) rfl (by decide) (by decide) (by decide)
  · refine AW.iconst (n := 0) (by decide +kernel) (?_ : AW _ _ _ _ 22 _ _ _ _ _ _)
    exact AW.retb1 (by decide +kernel) rfl (by decide) (by decide) (by decide)
theorem c_Text_takeSemicolon (l : Launch) (hl : l.stackTraces = false) (μ : ZMem) (r : ZRes) (h : F_Text_takeSemicolon μ = some r) : ZC l cf_Text_takeSemicolon S_Text S_Text [zR (some 0)] μ r := ZC.of hl (by decide +kernel) rfl rfl zft_X6_ok (Nat.le_of_ble_eq_true rfl) h (w_Text_takeSemicolon μ)
/-! WeirLedger$Text.isLetterAt(I)Z -/
def cf_Text_isLetterAt : ZCf := (yX6_isLetterAt, cX6_isLetterAt, 2, some .boolean, [], 2, 0, 0, zft_X6, none)
theorem cal_Text_isLetterAt : zCallee cf_Text_isLetterAt 1 := ⟨rfl, zc_yX6_isLetterAt, by decide, by decide, by decide +kernel⟩
def F_Text_isLetterAt (a1 : Int) (μ : ZMem) : Option ZRes := if w32 (μ 0 1) ≤ w32 a1 then (some (.inr (some (zI 0)), μ)) else (zRd μ 1 400 a1 (fun x1 => if w32 x1 < w32 97 then (some (.inr (some (zI 0)), μ)) else (zRd μ 1 400 a1 (fun x2 => if w32 122 < w32 x2 then (some (.inr (some (zI 0)), μ)) else (some (.inr (some (zI 1)), μ))))))
set_option maxRecDepth 100000 in
theorem w_Text_isLetterAt (a1 : Int) (μ : ZMem) : AW cf_Text_isLetterAt S_Text.length S_Text S_Text 0 [(0, zR (some 0)), (1, zI a1)] [] μ 0 0 (F_Text_isLetterAt a1 μ) := by
  unfold F_Text_isLetterAt
  refine AW.iload_n (i := 1) (a := a1) (by decide +kernel) rfl (?_ : AW _ _ _ _ 1 _ _ _ _ _ _)
  refine AW.aload_n (i := 0) (a := 0) (by decide +kernel) rfl (?_ : AW _ _ _ _ 2 _ _ _ _ _ _)
  refine AW.getI (idx := 19) (ci := 6) (k := 1) (r := 0) (by decide +kernel) rfl rfl rfl (?_ : AW _ _ _ _ 5 _ _ _ _ _ _)
  refine AW.icmp_ge (off := 29) (tgt := 34) (by decide +kernel) (by decide) (fun _ => ?_) (fun _ => ?_)
  · refine AW.iconst (n := 0) (by decide +kernel) (?_ : AW _ _ _ _ 35 _ _ _ _ _ _)
    exact AW.retb1 (by decide +kernel) rfl (by decide) (by decide) (by decide)
  · refine AW.aload_n (i := 0) (a := 0) (by decide +kernel) rfl (?_ : AW _ _ _ _ 9 _ _ _ _ _ _)
    refine AW.getR (idx := 9) (ci := 6) (k := 0) (r := 0) (by decide +kernel) rfl rfl rfl (?_ : AW _ _ _ _ 12 _ _ _ _ _ _)
    refine AW.iload_n (i := 1) (a := a1) (by decide +kernel) rfl (?_ : AW _ _ _ _ 13 _ _ _ _ _ _)
    refine AW.iald (r := 1) (by decide +kernel) rfl (fun x1 => (?_ : AW _ _ _ _ 14 _ _ _ _ _ _))
    refine AW.bipush (n := 97) (by decide +kernel) (by decide +kernel) (?_ : AW _ _ _ _ 16 _ _ _ _ _ _)
    refine AW.icmp_lt (off := 18) (tgt := 34) (by decide +kernel) (by decide) (fun _ => ?_) (fun _ => ?_)
    · refine AW.iconst (n := 0) (by decide +kernel) (?_ : AW _ _ _ _ 35 _ _ _ _ _ _)
      exact AW.retb1 (by decide +kernel) rfl (by decide) (by decide) (by decide)
    · refine AW.aload_n (i := 0) (a := 0) (by decide +kernel) rfl (?_ : AW _ _ _ _ 20 _ _ _ _ _ _)
      refine AW.getR (idx := 9) (ci := 6) (k := 0) (r := 0) (by decide +kernel) rfl rfl rfl (?_ : AW _ _ _ _ 23 _ _ _ _ _ _)
      refine AW.iload_n (i := 1) (a := a1) (by decide +kernel) rfl (?_ : AW _ _ _ _ 24 _ _ _ _ _ _)
      refine AW.iald (r := 1) (by decide +kernel) rfl (fun x2 => (?_ : AW _ _ _ _ 25 _ _ _ _ _ _))
      refine AW.bipush (n := 122) (by decide +kernel) (by decide +kernel) (?_ : AW _ _ _ _ 27 _ _ _ _ _ _)
      refine AW.icmp_gt (off := 7) (tgt := 34) (by decide +kernel) (by decide) (fun _ => ?_) (fun _ => ?_)
      · refine AW.iconst (n := 0) (by decide +kernel) (?_ : AW _ _ _ _ 35 _ _ _ _ _ _)
        exact AW.retb1 (by decide +kernel) rfl (by decide) (by decide) (by decide)
      · refine AW.iconst (n := 1) (by decide +kernel) (?_ : AW _ _ _ _ 31 _ _ _ _ _ _)
        refine AW.goto (off := 4) (tgt := 35) (by decide +kernel) (by decide) ?_
        exact AW.retb1 (by decide +kernel) rfl (by decide) (by decide) (by decide)
theorem c_Text_isLetterAt (l : Launch) (hl : l.stackTraces = false) (a1 : Int) (μ : ZMem) (r : ZRes) (h : F_Text_isLetterAt a1 μ = some r) : ZC l cf_Text_isLetterAt S_Text S_Text [zR (some 0), zI a1] μ r := ZC.of hl (by decide +kernel) rfl rfl zft_X6_ok (Nat.le_of_ble_eq_true rfl) h (w_Text_isLetterAt a1 μ)
def S_E : List ZSh := []
theorem S_E_wf : zWfS S_E.length S_E = true ∧ Nat.ble S_E.length 1000 = true := ⟨by decide +kernel, rfl⟩
/-! WeirLedger$Text.isDigit(I)Z -/
def cf_Text_isDigit : ZCf := (yX6_isDigit, cX6_isDigit, 1, some .boolean, [], 2, 0, 0, zft_X6, none)
theorem cal_Text_isDigit : zCallee cf_Text_isDigit 1 := ⟨rfl, zc_yX6_isDigit, by decide, by decide, by decide +kernel⟩
def F_Text_isDigit (a0 : Int) (μ : ZMem) : Option ZRes := if w32 a0 < w32 48 then (some (.inr (some (zI 0)), μ)) else (if w32 57 < w32 a0 then (some (.inr (some (zI 0)), μ)) else (some (.inr (some (zI 1)), μ)))
set_option maxRecDepth 100000 in
theorem w_Text_isDigit (a0 : Int) (μ : ZMem) : AW cf_Text_isDigit S_E.length S_E S_E 0 [(0, zI a0)] [] μ 0 0 (F_Text_isDigit a0 μ) := by
  unfold F_Text_isDigit
  refine AW.iload_n (i := 0) (a := a0) (by decide +kernel) rfl (?_ : AW _ _ _ _ 1 _ _ _ _ _ _)
  refine AW.bipush (n := 48) (by decide +kernel) (by decide +kernel) (?_ : AW _ _ _ _ 3 _ _ _ _ _ _)
  refine AW.icmp_lt (off := 13) (tgt := 16) (by decide +kernel) (by decide) (fun _ => ?_) (fun _ => ?_)
  · refine AW.iconst (n := 0) (by decide +kernel) (?_ : AW _ _ _ _ 17 _ _ _ _ _ _)
    exact AW.retb1 (by decide +kernel) rfl (by decide) (by decide) (by decide)
  · refine AW.iload_n (i := 0) (a := a0) (by decide +kernel) rfl (?_ : AW _ _ _ _ 7 _ _ _ _ _ _)
    refine AW.bipush (n := 57) (by decide +kernel) (by decide +kernel) (?_ : AW _ _ _ _ 9 _ _ _ _ _ _)
    refine AW.icmp_gt (off := 7) (tgt := 16) (by decide +kernel) (by decide) (fun _ => ?_) (fun _ => ?_)
    · refine AW.iconst (n := 0) (by decide +kernel) (?_ : AW _ _ _ _ 17 _ _ _ _ _ _)
      exact AW.retb1 (by decide +kernel) rfl (by decide) (by decide) (by decide)
    · refine AW.iconst (n := 1) (by decide +kernel) (?_ : AW _ _ _ _ 13 _ _ _ _ _ _)
      refine AW.goto (off := 4) (tgt := 17) (by decide +kernel) (by decide) ?_
      exact AW.retb1 (by decide +kernel) rfl (by decide) (by decide) (by decide)
theorem c_Text_isDigit (l : Launch) (hl : l.stackTraces = false) (a0 : Int) (μ : ZMem) (r : ZRes) (h : F_Text_isDigit a0 μ = some r) : ZC l cf_Text_isDigit S_E S_E [zI a0] μ r := ZC.of hl (by decide +kernel) rfl rfl zft_X6_ok (Nat.le_of_ble_eq_true rfl) h (w_Text_isDigit a0 μ)
/-! WeirLedger$Text.takeWord(Ljava/lang/String;)Z -/
def cf_Text_takeWord : ZCf := (yX6_takeWord, cX6_takeWord, 5, some .boolean, [], 10, 0, 0, zft_X6, none)
theorem cal_Text_takeWord : zCallee cf_Text_takeWord 1 := ⟨rfl, zc_yX6_takeWord, by decide, by decide, by decide +kernel⟩
def L_Text_takeWord_33 (j1 : Nat) (c2 : Int) (c3 : Int) (μ : ZMem) (K : Option ZRes) : Nat → Int → Option ZRes
  | 0, _ => none
  | n + 1, v4 => if w32 c3 ≤ w32 v4 then (K) else (zRd μ 1 400 v4 (fun x7 => zSch j1 (v4 - c2) (fun x8 => if w32 x7 = w32 x8 then (zLet (v4 + 1) (fun x9 => L_Text_takeWord_33 j1 c2 c3 μ K n x9)) else (some (.inr (some (zI 0)), μ)))))
set_option maxRecDepth 100000 in
theorem l_Text_takeWord_33 {j1 : Nat} {c2 : Int} {c3 : Int} {μ : ZMem} {K : Option ZRes} (hK : AW cf_Text_takeWord S_Text.length S_Text S_Text 65 [(0, zR (some 0)), (3, zI c3)] [] μ 0 0 (K)) : ∀ (n : Nat) (v4 : Int), AW cf_Text_takeWord S_Text.length S_Text S_Text 33 [(0, zR (some 0)), (1, zR (some (zSB + j1))), (2, zI c2), (3, zI c3), (4, zI v4)] [] μ 0 0 (L_Text_takeWord_33 j1 c2 c3 μ K n v4) := by
  intro n
  induction n with
  | zero => intro v4; exact AW.noth
  | succ n ih =>
    intro v4
    rw [L_Text_takeWord_33]
    refine AW.iload (i := 4) (a := v4) (by decide +kernel) rfl (?_ : AW _ _ _ _ 35 _ _ _ _ _ _)
    refine AW.iload_n (i := 3) (a := c3) (by decide +kernel) rfl (?_ : AW _ _ _ _ 36 _ _ _ _ _ _)
    refine AW.icmp_ge (off := 29) (tgt := 65) (by decide +kernel) (by decide) (fun _ => ?_) (fun _ => ?_)
    · refine AW.sub (L' := [(0, zR (some 0)), (3, zI c3)]) [0, 3] rfl ?_
      exact hK 
    · refine AW.aload_n (i := 0) (a := 0) (by decide +kernel) rfl (?_ : AW _ _ _ _ 40 _ _ _ _ _ _)
      refine AW.getR (idx := 9) (ci := 6) (k := 0) (r := 0) (by decide +kernel) rfl rfl rfl (?_ : AW _ _ _ _ 43 _ _ _ _ _ _)
      refine AW.iload (i := 4) (a := v4) (by decide +kernel) rfl (?_ : AW _ _ _ _ 45 _ _ _ _ _ _)
      refine AW.iald (r := 1) (by decide +kernel) rfl (fun x7 => (?_ : AW _ _ _ _ 46 _ _ _ _ _ _))
      refine AW.aload_n (i := 1) (a := (zSB + j1)) (by decide +kernel) rfl (?_ : AW _ _ _ _ 47 _ _ _ _ _ _)
      refine AW.iload (i := 4) (a := v4) (by decide +kernel) rfl (?_ : AW _ _ _ _ 49 _ _ _ _ _ _)
      refine AW.iload_n (i := 2) (a := c2) (by decide +kernel) rfl (?_ : AW _ _ _ _ 50 _ _ _ _ _ _)
      refine AW.isub (by decide +kernel) (?_ : AW _ _ _ _ 51 _ _ _ _ _ _)
      refine AW.schr (idx := 44) (j := j1) (by decide +kernel) zm_X6_44 rfl (fun x8 => (?_ : AW _ _ _ _ 54 _ _ _ _ _ _))
      refine AW.icmp_eq (off := 5) (tgt := 59) (by decide +kernel) (by decide) (fun _ => ?_) (fun _ => ?_)
      · refine AW.iincL (i := 4) (n := 1) (a := v4) (L' := fun x9 => [(4, zI x9), (0, zR (some 0)), (1, zR (some (zSB + j1))), (2, zI c2), (3, zI c3)]) (by decide +kernel) rfl (by decide) (fun _ => rfl) (fun x9 => (?_ : AW _ _ _ _ 62 _ _ _ _ _ _))
        refine AW.goto (off := -29) (tgt := 33) (by decide +kernel) (by decide) ?_
        refine AW.sub (L' := [(0, zR (some 0)), (1, zR (some (zSB + j1))), (2, zI c2), (3, zI c3), (4, zI x9)]) [1, 2, 3, 4, 0] rfl ?_
        exact ih x9
      · refine AW.iconst (n := 0) (by decide +kernel) (?_ : AW _ _ _ _ 58 _ _ _ _ _ _)
        exact AW.retb1 (by decide +kernel) rfl (by decide) (by decide) (by decide)
def F_Text_takeWord (j1 : Nat) (μ : ZMem) : Option ZRes := zC (F_Text_next  μ) (zkI (fun x2 μ1 => zSln j1 (fun x3 => zLet ((x2 + x3)) (fun x4 => if w32 (μ1 0 1) < w32 x4 then (some (.inr (some (zI 0)), μ1)) else (zC (F_Text_isLetterAt x4 μ1) (zkI (fun x6 μ5 => if w32 x6 = 0 then (L_Text_takeWord_33 j1 x2 x4 μ5 (zLet (zUp μ5 0 2 x4) (fun μ10 => some (.inr (some (zI 1)), μ10))) zN x2) else (some (.inr (some (zI 0)), μ5)))) zX0))))) zX0
set_option maxRecDepth 100000 in
theorem w_Text_takeWord (j1 : Nat) (μ : ZMem) : AW cf_Text_takeWord S_Text.length S_Text S_Text 0 [(0, zR (some 0)), (1, zR (some (zSB + j1)))] [] μ 0 0 (F_Text_takeWord j1 μ) := by
  unfold F_Text_takeWord
  refine AW.aload_n (i := 0) (a := 0) (by decide +kernel) rfl (?_ : AW _ _ _ _ 1 _ _ _ _ _ _)
  refine AW.callVw (g := cf_Text_next) (av := []) (b0 := 0) (ci := 6) (idx := 25) (n := 0) (st := []) (by decide +kernel) (fun l hl r hr => c_Text_next l hl  _ r hr) S_Text_wf rfl cal_Text_next rfl (zw4 zm_X6_25 zi_yX6_next zs_yX6_next zn_X6) rfl rfl ⟨by decide, by decide, by decide, by decide⟩ (Nat.le_of_ble_eq_true rfl) (Or.inl rfl) (fun v μ1 => AW.kI (fun x2 => (?_ : AW _ _ _ _ 4 _ _ _ _ _ _)) v)
  refine AW.istore_n' (i := 2) (L' := [(2, zI x2), (0, zR (some 0)), (1, zR (some (zSB + j1)))]) (by decide +kernel) (by decide) rfl (?_ : AW _ _ _ _ 5 _ _ _ _ _ _)
  refine AW.iload_n (i := 2) (a := x2) (by decide +kernel) rfl (?_ : AW _ _ _ _ 6 _ _ _ _ _ _)
  refine AW.aload_n (i := 1) (a := (zSB + j1)) (by decide +kernel) rfl (?_ : AW _ _ _ _ 7 _ _ _ _ _ _)
  refine AW.slen (idx := 37) (j := j1) (by decide +kernel) zm_X6_37 rfl (fun x3 => (?_ : AW _ _ _ _ 10 _ _ _ _ _ _))
  refine AW.iadd (by decide +kernel) (?_ : AW _ _ _ _ 11 _ _ _ _ _ _)
  refine AW.istoreL_n (i := 3) (L' := fun x4 => [(3, zI x4), (2, zI x2), (0, zR (some 0)), (1, zR (some (zSB + j1)))]) (by decide +kernel) (by decide) (fun _ => rfl) (fun x4 => (?_ : AW _ _ _ _ 12 _ _ _ _ _ _))
  refine AW.iload_n (i := 3) (a := x4) (by decide +kernel) rfl (?_ : AW _ _ _ _ 13 _ _ _ _ _ _)
  refine AW.aload_n (i := 0) (a := 0) (by decide +kernel) rfl (?_ : AW _ _ _ _ 14 _ _ _ _ _ _)
  refine AW.getI (idx := 19) (ci := 6) (k := 1) (r := 0) (by decide +kernel) rfl rfl rfl (?_ : AW _ _ _ _ 17 _ _ _ _ _ _)
  refine AW.icmp_gt (off := 11) (tgt := 28) (by decide +kernel) (by decide) (fun _ => ?_) (fun _ => ?_)
  · refine AW.iconst (n := 0) (by decide +kernel) (?_ : AW _ _ _ _ 29 _ _ _ _ _ _)
    exact AW.retb1 (by decide +kernel) rfl (by decide) (by decide) (by decide)
  · refine AW.aload_n (i := 0) (a := 0) (by decide +kernel) rfl (?_ : AW _ _ _ _ 21 _ _ _ _ _ _)
    refine AW.iload_n (i := 3) (a := x4) (by decide +kernel) rfl (?_ : AW _ _ _ _ 22 _ _ _ _ _ _)
    refine AW.callVw (g := cf_Text_isLetterAt) (av := [zI x4]) (b0 := 0) (ci := 6) (idx := 41) (n := 1) (st := []) (by decide +kernel) (fun l hl r hr => c_Text_isLetterAt l hl x4 _ r hr) S_Text_wf rfl cal_Text_isLetterAt rfl (zw4 zm_X6_41 zi_yX6_isLetterAt zs_yX6_isLetterAt zn_X6) rfl rfl ⟨by decide, by decide, by decide, by decide⟩ (Nat.le_of_ble_eq_true rfl) (Or.inl rfl) (fun v μ5 => AW.kI (fun x6 => (?_ : AW _ _ _ _ 25 _ _ _ _ _ _)) v)
    refine AW.if_eq (off := 5) (tgt := 30) (by decide +kernel) (by decide) (fun _ => ?_) (fun _ => ?_)
    · refine AW.iload_n (i := 2) (a := x2) (by decide +kernel) rfl (?_ : AW _ _ _ _ 31 _ _ _ _ _ _)
      refine AW.istore' (i := 4) (L' := [(4, zI x2), (3, zI x4), (2, zI x2), (0, zR (some 0)), (1, zR (some (zSB + j1)))]) (by decide +kernel) (by decide) rfl (?_ : AW _ _ _ _ 33 _ _ _ _ _ _)
      refine AW.sub (L' := [(0, zR (some 0)), (1, zR (some (zSB + j1))), (2, zI x2), (3, zI x4), (4, zI x2)]) [3, 4, 2, 1, 0] rfl ?_
      refine l_Text_takeWord_33 ?_ zN _
      refine AW.aload_n (i := 0) (a := 0) (by decide +kernel) rfl (?_ : AW _ _ _ _ 66 _ _ _ _ _ _)
      refine AW.iload_n (i := 3) (a := x4) (by decide +kernel) rfl (?_ : AW _ _ _ _ 67 _ _ _ _ _ _)
      refine AW.putiL (idx := 22) (ci := 6) (k := 2) (r := 0) (by decide +kernel) rfl rfl rfl (fun μ10 => (?_ : AW _ _ _ _ 70 _ _ _ _ _ _))
      refine AW.iconst (n := 1) (by decide +kernel) (?_ : AW _ _ _ _ 71 _ _ _ _ _ _)
      exact AW.retb1 (by decide +kernel) rfl (by decide) (by decide) (by decide)
    · refine AW.iconst (n := 0) (by decide +kernel) (?_ : AW _ _ _ _ 29 _ _ _ _ _ _)
      exact AW.retb1 (by decide +kernel) rfl (by decide) (by decide) (by decide)
theorem c_Text_takeWord (l : Launch) (hl : l.stackTraces = false) (j1 : Nat) (μ : ZMem) (r : ZRes) (h : F_Text_takeWord j1 μ = some r) : ZC l cf_Text_takeWord S_Text S_Text [zR (some 0), zR (some (zSB + j1))] μ r := ZC.of hl (by decide +kernel) rfl rfl zft_X6_ok (Nat.le_of_ble_eq_true rfl) h (w_Text_takeWord j1 μ)
/-! WeirLedger$Text.takeNumber(II)I -/
def cf_Text_takeNumber : ZCf := (yX6_takeNumber, cX6_takeNumber, 6, some .int, [], 3, 0, 0, zft_X6, none)
theorem cal_Text_takeNumber : zCallee cf_Text_takeNumber 2 := ⟨rfl, zc_yX6_takeNumber, by decide, by decide, by decide +kernel⟩
def J_Text_takeNumber_59 (R : Int → Int → Option ZRes) (K : Int → Int → Option ZRes) (c1 : Int) (c2 : Int) (c3 : Int) (u4 : Int) (u5 : Int) (μ : ZMem) : Option ZRes := zLet (u4 + 1) (fun x6 => R x6 u5)
set_option maxRecDepth 100000 in
theorem j_Text_takeNumber_59 {R : Int → Int → Option ZRes} {K : Int → Int → Option ZRes} (μ : ZMem) (c1 : Int) (c2 : Int) (c3 : Int) (hR : ∀ (v4 : Int) (v5 : Int), AW cf_Text_takeNumber S_Text.length S_Text S_Text 11 [(0, zR (some 0)), (1, zI c1), (2, zI c2), (3, zI c3), (4, zI v4), (5, zI v5)] [] μ 0 0 (R v4 v5)) (hK : ∀ (k4 : Int) (k5 : Int), AW cf_Text_takeNumber S_Text.length S_Text S_Text 65 [(0, zR (some 0)), (1, zI c1), (2, zI c2), (3, zI c3), (4, zI k4), (5, zI k5)] [] μ 0 0 (K k4 k5)) (u4 : Int) (u5 : Int) : AW cf_Text_takeNumber S_Text.length S_Text S_Text 59 [(0, zR (some 0)), (1, zI c1), (2, zI c2), (3, zI c3), (4, zI u4), (5, zI u5)] [] μ 0 0 (J_Text_takeNumber_59 R K c1 c2 c3 u4 u5 μ) := by
  unfold J_Text_takeNumber_59
  refine AW.iincL (i := 4) (n := 1) (a := u4) (L' := fun x6 => [(4, zI x6), (0, zR (some 0)), (1, zI c1), (2, zI c2), (3, zI c3), (5, zI u5)]) (by decide +kernel) rfl (by decide) (fun _ => rfl) (fun x6 => (?_ : AW _ _ _ _ 62 _ _ _ _ _ _))
  refine AW.goto (off := -51) (tgt := 11) (by decide +kernel) (by decide) ?_
  refine AW.sub (L' := [(0, zR (some 0)), (1, zI c1), (2, zI c2), (3, zI c3), (4, zI x6), (5, zI u5)]) [1, 2, 3, 4, 0, 5] rfl ?_
  exact hR x6 u5
def L_Text_takeNumber_11 (c1 : Int) (c2 : Int) (c3 : Int) (μ : ZMem) (K : Int → Int → Option ZRes) : Nat → Int → Int → Option ZRes
  | 0, _, _ => none
  | n + 1, v4, v5 => if w32 (μ 0 1) ≤ w32 v4 then (K v4 v5) else (zRd μ 1 400 v4 (fun x3 => zC (F_Text_isDigit x3 μ) (zkI (fun x5 _ => if w32 x5 = 0 then (K v4 v5) else (if w32 4 ≤ w32 (v4 - c3) then (J_Text_takeNumber_59 (fun v4 v5 => L_Text_takeNumber_11 c1 c2 c3 μ K n v4 v5) K c1 c2 c3 v4 v5 μ) else (zRd μ 1 400 v4 (fun x7 => zLet ((((v5 * 10) + x7) - 48)) (fun x8 => J_Text_takeNumber_59 (fun v4 v5 => L_Text_takeNumber_11 c1 c2 c3 μ K n v4 v5) K c1 c2 c3 v4 x8 μ)))))) zX0))
set_option maxRecDepth 100000 in
theorem l_Text_takeNumber_11 {c1 : Int} {c2 : Int} {c3 : Int} {μ : ZMem} {K : Int → Int → Option ZRes} (hK : ∀ (k4 : Int) (k5 : Int), AW cf_Text_takeNumber S_Text.length S_Text S_Text 65 [(0, zR (some 0)), (1, zI c1), (2, zI c2), (3, zI c3), (4, zI k4), (5, zI k5)] [] μ 0 0 (K k4 k5)) : ∀ (n : Nat) (v4 : Int) (v5 : Int), AW cf_Text_takeNumber S_Text.length S_Text S_Text 11 [(0, zR (some 0)), (1, zI c1), (2, zI c2), (3, zI c3), (4, zI v4), (5, zI v5)] [] μ 0 0 (L_Text_takeNumber_11 c1 c2 c3 μ K n v4 v5) := by
  intro n
  induction n with
  | zero => intro v4 v5; exact AW.noth
  | succ n ih =>
    intro v4 v5
    rw [L_Text_takeNumber_11]
    refine AW.iload (i := 4) (a := v4) (by decide +kernel) rfl (?_ : AW _ _ _ _ 13 _ _ _ _ _ _)
    refine AW.aload_n (i := 0) (a := 0) (by decide +kernel) rfl (?_ : AW _ _ _ _ 14 _ _ _ _ _ _)
    refine AW.getI (idx := 19) (ci := 6) (k := 1) (r := 0) (by decide +kernel) rfl rfl rfl (?_ : AW _ _ _ _ 17 _ _ _ _ _ _)
    refine AW.icmp_ge (off := 48) (tgt := 65) (by decide +kernel) (by decide) (fun _ => ?_) (fun _ => ?_)
    · exact hK v4 v5
    · refine AW.aload_n (i := 0) (a := 0) (by decide +kernel) rfl (?_ : AW _ _ _ _ 21 _ _ _ _ _ _)
      refine AW.getR (idx := 9) (ci := 6) (k := 0) (r := 0) (by decide +kernel) rfl rfl rfl (?_ : AW _ _ _ _ 24 _ _ _ _ _ _)
      refine AW.iload (i := 4) (a := v4) (by decide +kernel) rfl (?_ : AW _ _ _ _ 26 _ _ _ _ _ _)
      refine AW.iald (r := 1) (by decide +kernel) rfl (fun x3 => (?_ : AW _ _ _ _ 27 _ _ _ _ _ _))
      refine AW.callP (g := cf_Text_isDigit) (av := [zI x3]) (idx := 48) (n := 1) (st := []) (by decide +kernel) (fun l hl r hr => c_Text_isDigit l hl x3 _ r hr) rfl cal_Text_isDigit rfl (zw3 zm_X6_48 zt_yX6_isDigit zn_X6) ⟨by decide, by decide, by decide, by decide⟩ (Nat.le_of_ble_eq_true rfl) (fun v _ => AW.kI (fun x5 => (?_ : AW _ _ _ _ 30 _ _ _ _ _ _)) v)
      refine AW.if_eq (off := 35) (tgt := 65) (by decide +kernel) (by decide) (fun _ => ?_) (fun _ => ?_)
      · exact hK v4 v5
      · refine AW.iload (i := 4) (a := v4) (by decide +kernel) rfl (?_ : AW _ _ _ _ 35 _ _ _ _ _ _)
        refine AW.iload_n (i := 3) (a := c3) (by decide +kernel) rfl (?_ : AW _ _ _ _ 36 _ _ _ _ _ _)
        refine AW.isub (by decide +kernel) (?_ : AW _ _ _ _ 37 _ _ _ _ _ _)
        refine AW.iconst (n := 4) (by decide +kernel) (?_ : AW _ _ _ _ 38 _ _ _ _ _ _)
        refine AW.icmp_ge (off := 21) (tgt := 59) (by decide +kernel) (by decide) (fun _ => ?_) (fun _ => ?_)
        · exact j_Text_takeNumber_59 μ c1 c2 c3 ih hK v4 v5
        · refine AW.iload (i := 5) (a := v5) (by decide +kernel) rfl (?_ : AW _ _ _ _ 43 _ _ _ _ _ _)
          refine AW.bipush (n := 10) (by decide +kernel) (by decide +kernel) (?_ : AW _ _ _ _ 45 _ _ _ _ _ _)
          refine AW.imul (by decide +kernel) (?_ : AW _ _ _ _ 46 _ _ _ _ _ _)
          refine AW.aload_n (i := 0) (a := 0) (by decide +kernel) rfl (?_ : AW _ _ _ _ 47 _ _ _ _ _ _)
          refine AW.getR (idx := 9) (ci := 6) (k := 0) (r := 0) (by decide +kernel) rfl rfl rfl (?_ : AW _ _ _ _ 50 _ _ _ _ _ _)
          refine AW.iload (i := 4) (a := v4) (by decide +kernel) rfl (?_ : AW _ _ _ _ 52 _ _ _ _ _ _)
          refine AW.iald (r := 1) (by decide +kernel) rfl (fun x7 => (?_ : AW _ _ _ _ 53 _ _ _ _ _ _))
          refine AW.iadd (by decide +kernel) (?_ : AW _ _ _ _ 54 _ _ _ _ _ _)
          refine AW.bipush (n := 48) (by decide +kernel) (by decide +kernel) (?_ : AW _ _ _ _ 56 _ _ _ _ _ _)
          refine AW.isub (by decide +kernel) (?_ : AW _ _ _ _ 57 _ _ _ _ _ _)
          refine AW.istoreL (i := 5) (L' := fun x8 => [(5, zI x8), (0, zR (some 0)), (1, zI c1), (2, zI c2), (3, zI c3), (4, zI v4)]) (by decide +kernel) (by decide) (fun _ => rfl) (fun x8 => (?_ : AW _ _ _ _ 59 _ _ _ _ _ _))
          refine AW.sub (L' := [(0, zR (some 0)), (1, zI c1), (2, zI c2), (3, zI c3), (4, zI v4), (5, zI x8)]) [1, 2, 3, 4, 5, 0] rfl ?_
          exact j_Text_takeNumber_59 μ c1 c2 c3 ih hK v4 x8
def J_Text_takeNumber_91 (u3 : Int) (μ : ZMem) : Option ZRes := zC (F_Text_refuse u3 μ) (zkI (fun x12 μ11 => some (.inr (some (zI (-1))), μ11))) zX0
set_option maxRecDepth 100000 in
theorem j_Text_takeNumber_91 (u3 : Int) (μ : ZMem) : AW cf_Text_takeNumber S_Text.length S_Text S_Text 91 [(0, zR (some 0)), (3, zI u3)] [] μ 0 0 (J_Text_takeNumber_91 u3 μ) := by
  unfold J_Text_takeNumber_91
  refine AW.aload_n (i := 0) (a := 0) (by decide +kernel) rfl (?_ : AW _ _ _ _ 92 _ _ _ _ _ _)
  refine AW.iload_n (i := 3) (a := u3) (by decide +kernel) rfl (?_ : AW _ _ _ _ 93 _ _ _ _ _ _)
  refine AW.callVw (g := cf_Text_refuse) (av := [zI u3]) (b0 := 0) (ci := 6) (idx := 29) (n := 1) (st := []) (by decide +kernel) (fun l hl r hr => c_Text_refuse l hl u3 _ r hr) S_Text_wf rfl cal_Text_refuse rfl (zw4 zm_X6_29 zi_yX6_refuse zs_yX6_refuse zn_X6) rfl rfl ⟨by decide, by decide, by decide, by decide⟩ (Nat.le_of_ble_eq_true rfl) (Or.inl rfl) (fun v μ11 => AW.kI (fun x12 => (?_ : AW _ _ _ _ 96 _ _ _ _ _ _)) v)
  refine AW.pop (by decide +kernel) rfl (?_ : AW _ _ _ _ 97 _ _ _ _ _ _)
  refine AW.iconst (n := -1) (by decide +kernel) (?_ : AW _ _ _ _ 98 _ _ _ _ _ _)
  exact AW.reti (by decide +kernel) rfl (by decide) (by decide)
def F_Text_takeNumber (a1 : Int) (a2 : Int) (μ : ZMem) : Option ZRes := zC (F_Text_next  μ) (zkI (fun x2 μ1 => L_Text_takeNumber_11 a1 a2 x2 μ1 (fun k9 k10 => if w32 k9 = w32 x2 then (J_Text_takeNumber_91 x2 μ1) else (if w32 4 < w32 (k9 - x2) then (J_Text_takeNumber_91 x2 μ1) else (if w32 k10 < w32 a1 then (J_Text_takeNumber_91 x2 μ1) else (if w32 k10 ≤ w32 a2 then (zLet (zUp μ1 0 2 k9) (fun μ13 => some (.inr (some (zI k10)), μ13))) else (J_Text_takeNumber_91 x2 μ1))))) zN x2 0)) zX0
set_option maxRecDepth 100000 in
theorem w_Text_takeNumber (a1 : Int) (a2 : Int) (μ : ZMem) : AW cf_Text_takeNumber S_Text.length S_Text S_Text 0 [(0, zR (some 0)), (1, zI a1), (2, zI a2)] [] μ 0 0 (F_Text_takeNumber a1 a2 μ) := by
  unfold F_Text_takeNumber
  refine AW.aload_n (i := 0) (a := 0) (by decide +kernel) rfl (?_ : AW _ _ _ _ 1 _ _ _ _ _ _)
  refine AW.callVw (g := cf_Text_next) (av := []) (b0 := 0) (ci := 6) (idx := 25) (n := 0) (st := []) (by decide +kernel) (fun l hl r hr => c_Text_next l hl  _ r hr) S_Text_wf rfl cal_Text_next rfl (zw4 zm_X6_25 zi_yX6_next zs_yX6_next zn_X6) rfl rfl ⟨by decide, by decide, by decide, by decide⟩ (Nat.le_of_ble_eq_true rfl) (Or.inl rfl) (fun v μ1 => AW.kI (fun x2 => (?_ : AW _ _ _ _ 4 _ _ _ _ _ _)) v)
  refine AW.istore_n' (i := 3) (L' := [(3, zI x2), (0, zR (some 0)), (1, zI a1), (2, zI a2)]) (by decide +kernel) (by decide) rfl (?_ : AW _ _ _ _ 5 _ _ _ _ _ _)
  refine AW.iload_n (i := 3) (a := x2) (by decide +kernel) rfl (?_ : AW _ _ _ _ 6 _ _ _ _ _ _)
  refine AW.istore' (i := 4) (L' := [(4, zI x2), (3, zI x2), (0, zR (some 0)), (1, zI a1), (2, zI a2)]) (by decide +kernel) (by decide) rfl (?_ : AW _ _ _ _ 8 _ _ _ _ _ _)
  refine AW.iconst (n := 0) (by decide +kernel) (?_ : AW _ _ _ _ 9 _ _ _ _ _ _)
  refine AW.istore' (i := 5) (L' := [(5, zI 0), (4, zI x2), (3, zI x2), (0, zR (some 0)), (1, zI a1), (2, zI a2)]) (by decide +kernel) (by decide) rfl (?_ : AW _ _ _ _ 11 _ _ _ _ _ _)
  refine AW.sub (L' := [(0, zR (some 0)), (1, zI a1), (2, zI a2), (3, zI x2), (4, zI x2), (5, zI 0)]) [3, 4, 5, 2, 1, 0] rfl ?_
  refine l_Text_takeNumber_11 (fun k9 k10 => ?_) zN _ _
  refine AW.iload (i := 4) (a := k9) (by decide +kernel) rfl (?_ : AW _ _ _ _ 67 _ _ _ _ _ _)
  refine AW.iload_n (i := 3) (a := x2) (by decide +kernel) rfl (?_ : AW _ _ _ _ 68 _ _ _ _ _ _)
  refine AW.icmp_eq (off := 23) (tgt := 91) (by decide +kernel) (by decide) (fun _ => ?_) (fun _ => ?_)
  · refine AW.sub (L' := [(0, zR (some 0)), (3, zI x2)]) [0, 3] rfl ?_
    exact j_Text_takeNumber_91 x2 μ1
  · refine AW.iload (i := 4) (a := k9) (by decide +kernel) rfl (?_ : AW _ _ _ _ 73 _ _ _ _ _ _)
    refine AW.iload_n (i := 3) (a := x2) (by decide +kernel) rfl (?_ : AW _ _ _ _ 74 _ _ _ _ _ _)
    refine AW.isub (by decide +kernel) (?_ : AW _ _ _ _ 75 _ _ _ _ _ _)
    refine AW.iconst (n := 4) (by decide +kernel) (?_ : AW _ _ _ _ 76 _ _ _ _ _ _)
    refine AW.icmp_gt (off := 15) (tgt := 91) (by decide +kernel) (by decide) (fun _ => ?_) (fun _ => ?_)
    · refine AW.sub (L' := [(0, zR (some 0)), (3, zI x2)]) [0, 3] rfl ?_
      exact j_Text_takeNumber_91 x2 μ1
    · refine AW.iload (i := 5) (a := k10) (by decide +kernel) rfl (?_ : AW _ _ _ _ 81 _ _ _ _ _ _)
      refine AW.iload_n (i := 1) (a := a1) (by decide +kernel) rfl (?_ : AW _ _ _ _ 82 _ _ _ _ _ _)
      refine AW.icmp_lt (off := 9) (tgt := 91) (by decide +kernel) (by decide) (fun _ => ?_) (fun _ => ?_)
      · refine AW.sub (L' := [(0, zR (some 0)), (3, zI x2)]) [0, 3] rfl ?_
        exact j_Text_takeNumber_91 x2 μ1
      · refine AW.iload (i := 5) (a := k10) (by decide +kernel) rfl (?_ : AW _ _ _ _ 87 _ _ _ _ _ _)
        refine AW.iload_n (i := 2) (a := a2) (by decide +kernel) rfl (?_ : AW _ _ _ _ 88 _ _ _ _ _ _)
        refine AW.icmp_le (off := 11) (tgt := 99) (by decide +kernel) (by decide) (fun _ => ?_) (fun _ => ?_)
        · refine AW.aload_n (i := 0) (a := 0) (by decide +kernel) rfl (?_ : AW _ _ _ _ 100 _ _ _ _ _ _)
          refine AW.iload (i := 4) (a := k9) (by decide +kernel) rfl (?_ : AW _ _ _ _ 102 _ _ _ _ _ _)
          refine AW.putiL (idx := 22) (ci := 6) (k := 2) (r := 0) (by decide +kernel) rfl rfl rfl (fun μ13 => (?_ : AW _ _ _ _ 105 _ _ _ _ _ _))
          refine AW.iload (i := 5) (a := k10) (by decide +kernel) rfl (?_ : AW _ _ _ _ 107 _ _ _ _ _ _)
          exact AW.reti (by decide +kernel) rfl (by decide) (by decide)
        · refine AW.sub (L' := [(0, zR (some 0)), (3, zI x2)]) [0, 3] rfl ?_
          exact j_Text_takeNumber_91 x2 μ1
theorem c_Text_takeNumber (l : Launch) (hl : l.stackTraces = false) (a1 : Int) (a2 : Int) (μ : ZMem) (r : ZRes) (h : F_Text_takeNumber a1 a2 μ = some r) : ZC l cf_Text_takeNumber S_Text S_Text [zR (some 0), zI a1, zI a2] μ r := ZC.of hl (by decide +kernel) rfl rfl zft_X6_ok (Nat.le_of_ble_eq_true rfl) h (w_Text_takeNumber a1 a2 μ)
/-! WeirLedger$Text.takeNumberUnlike(II)I -/
def cf_Text_takeNumberUnlike : ZCf := (yX6_takeNumberUnlike, cX6_takeNumberUnlike, 5, some .int, [], 4, 0, 0, zft_X6, none)
theorem cal_Text_takeNumberUnlike : zCallee cf_Text_takeNumberUnlike 2 := ⟨rfl, zc_yX6_takeNumberUnlike, by decide, by decide, by decide +kernel⟩
def F_Text_takeNumberUnlike (a1 : Int) (a2 : Int) (μ : ZMem) : Option ZRes := zC (F_Text_next  μ) (zkI (fun x2 μ1 => zC (F_Text_takeNumber 0 a2 μ1) (zkI (fun x4 μ3 => if w32 x4 = w32 (-1) then (some (.inr (some (zI x4)), μ3)) else (if w32 x4 = w32 a1 then (zC (F_Text_refuse x2 μ3) (zkI (fun x6 μ5 => some (.inr (some (zI (-1))), μ5))) zX0) else (some (.inr (some (zI x4)), μ3))))) zX0)) zX0
set_option maxRecDepth 100000 in
theorem w_Text_takeNumberUnlike (a1 : Int) (a2 : Int) (μ : ZMem) : AW cf_Text_takeNumberUnlike S_Text.length S_Text S_Text 0 [(0, zR (some 0)), (1, zI a1), (2, zI a2)] [] μ 0 0 (F_Text_takeNumberUnlike a1 a2 μ) := by
  unfold F_Text_takeNumberUnlike
  refine AW.aload_n (i := 0) (a := 0) (by decide +kernel) rfl (?_ : AW _ _ _ _ 1 _ _ _ _ _ _)
  refine AW.callVw (g := cf_Text_next) (av := []) (b0 := 0) (ci := 6) (idx := 25) (n := 0) (st := []) (by decide +kernel) (fun l hl r hr => c_Text_next l hl  _ r hr) S_Text_wf rfl cal_Text_next rfl (zw4 zm_X6_25 zi_yX6_next zs_yX6_next zn_X6) rfl rfl ⟨by decide, by decide, by decide, by decide⟩ (Nat.le_of_ble_eq_true rfl) (Or.inl rfl) (fun v μ1 => AW.kI (fun x2 => (?_ : AW _ _ _ _ 4 _ _ _ _ _ _)) v)
  refine AW.istore_n' (i := 3) (L' := [(3, zI x2), (0, zR (some 0)), (1, zI a1), (2, zI a2)]) (by decide +kernel) (by decide) rfl (?_ : AW _ _ _ _ 5 _ _ _ _ _ _)
  refine AW.aload_n (i := 0) (a := 0) (by decide +kernel) rfl (?_ : AW _ _ _ _ 6 _ _ _ _ _ _)
  refine AW.iconst (n := 0) (by decide +kernel) (?_ : AW _ _ _ _ 7 _ _ _ _ _ _)
  refine AW.iload_n (i := 2) (a := a2) (by decide +kernel) rfl (?_ : AW _ _ _ _ 8 _ _ _ _ _ _)
  refine AW.callVw (g := cf_Text_takeNumber) (av := [zI 0, zI a2]) (b0 := 0) (ci := 6) (idx := 51) (n := 2) (st := []) (by decide +kernel) (fun l hl r hr => c_Text_takeNumber l hl 0 a2 _ r hr) S_Text_wf rfl cal_Text_takeNumber rfl (zw4 zm_X6_51 zi_yX6_takeNumber zs_yX6_takeNumber zn_X6) rfl rfl ⟨by decide, by decide, by decide, by decide⟩ (Nat.le_of_ble_eq_true rfl) (Or.inl rfl) (fun v μ3 => AW.kI (fun x4 => (?_ : AW _ _ _ _ 11 _ _ _ _ _ _)) v)
  refine AW.istore' (i := 4) (L' := [(4, zI x4), (3, zI x2), (0, zR (some 0)), (1, zI a1), (2, zI a2)]) (by decide +kernel) (by decide) rfl (?_ : AW _ _ _ _ 13 _ _ _ _ _ _)
  refine AW.iload (i := 4) (a := x4) (by decide +kernel) rfl (?_ : AW _ _ _ _ 15 _ _ _ _ _ _)
  refine AW.iconst (n := -1) (by decide +kernel) (?_ : AW _ _ _ _ 16 _ _ _ _ _ _)
  refine AW.icmp_eq (off := 17) (tgt := 33) (by decide +kernel) (by decide) (fun _ => ?_) (fun _ => ?_)
  · refine AW.iload (i := 4) (a := x4) (by decide +kernel) rfl (?_ : AW _ _ _ _ 35 _ _ _ _ _ _)
    exact AW.reti (by decide +kernel) rfl (by decide) (by decide)
  · refine AW.iload (i := 4) (a := x4) (by decide +kernel) rfl (?_ : AW _ _ _ _ 21 _ _ _ _ _ _)
    refine AW.iload_n (i := 1) (a := a1) (by decide +kernel) rfl (?_ : AW _ _ _ _ 22 _ _ _ _ _ _)
    refine AW.icmp_ne (off := 11) (tgt := 33) (by decide +kernel) (by decide) (fun _ => ?_) (fun _ => ?_)
    · refine AW.aload_n (i := 0) (a := 0) (by decide +kernel) rfl (?_ : AW _ _ _ _ 26 _ _ _ _ _ _)
      refine AW.iload_n (i := 3) (a := x2) (by decide +kernel) rfl (?_ : AW _ _ _ _ 27 _ _ _ _ _ _)
      refine AW.callVw (g := cf_Text_refuse) (av := [zI x2]) (b0 := 0) (ci := 6) (idx := 29) (n := 1) (st := []) (by decide +kernel) (fun l hl r hr => c_Text_refuse l hl x2 _ r hr) S_Text_wf rfl cal_Text_refuse rfl (zw4 zm_X6_29 zi_yX6_refuse zs_yX6_refuse zn_X6) rfl rfl ⟨by decide, by decide, by decide, by decide⟩ (Nat.le_of_ble_eq_true rfl) (Or.inl rfl) (fun v μ5 => AW.kI (fun x6 => (?_ : AW _ _ _ _ 30 _ _ _ _ _ _)) v)
      refine AW.pop (by decide +kernel) rfl (?_ : AW _ _ _ _ 31 _ _ _ _ _ _)
      refine AW.iconst (n := -1) (by decide +kernel) (?_ : AW _ _ _ _ 32 _ _ _ _ _ _)
      exact AW.reti (by decide +kernel) rfl (by decide) (by decide)
    · refine AW.iload (i := 4) (a := x4) (by decide +kernel) rfl (?_ : AW _ _ _ _ 35 _ _ _ _ _ _)
      exact AW.reti (by decide +kernel) rfl (by decide) (by decide)
theorem c_Text_takeNumberUnlike (l : Launch) (hl : l.stackTraces = false) (a1 : Int) (a2 : Int) (μ : ZMem) (r : ZRes) (h : F_Text_takeNumberUnlike a1 a2 μ = some r) : ZC l cf_Text_takeNumberUnlike S_Text S_Text [zR (some 0), zI a1, zI a2] μ r := ZC.of hl (by decide +kernel) rfl rfl zft_X6_ok (Nat.le_of_ble_eq_true rfl) h (w_Text_takeNumberUnlike a1 a2 μ)
/-! WeirLedger$Text.takeKind()I -/
def cf_Text_takeKind : ZCf := (yX6_takeKind, cX6_takeKind, 1, some .int, [], 11, 0, 0, zft_X6, none)
theorem cal_Text_takeKind : zCallee cf_Text_takeKind 0 := ⟨rfl, zc_yX6_takeKind, by decide, by decide, by decide +kernel⟩
def F_Text_takeKind (μ : ZMem) : Option ZRes := zC (F_Text_takeWord 11 μ) (zkI (fun x2 μ1 => if w32 x2 = 0 then (zC (F_Text_takeWord 12 μ1) (zkI (fun x4 μ3 => if w32 x4 = 0 then (zC (F_Text_takeWord 13 μ3) (zkI (fun x6 μ5 => if w32 x6 = 0 then (zC (F_Text_takeWord 14 μ5) (zkI (fun x8 μ7 => if w32 x8 = 0 then (zC (F_Text_takeWord 15 μ7) (zkI (fun x10 μ9 => if w32 x10 = 0 then (zC (F_Text_takeWord 16 μ9) (zkI (fun x12 μ11 => if w32 x12 = 0 then (zC (F_Text_takeWord 17 μ11) (zkI (fun x14 μ13 => if w32 x14 = 0 then (some (.inr (some (zI (-1))), μ13)) else (some (.inr (some (zI 6)), μ13)))) zX0) else (some (.inr (some (zI 7)), μ11)))) zX0) else (some (.inr (some (zI 5)), μ9)))) zX0) else (some (.inr (some (zI 4)), μ7)))) zX0) else (some (.inr (some (zI 3)), μ5)))) zX0) else (some (.inr (some (zI 1)), μ3)))) zX0) else (some (.inr (some (zI 0)), μ1)))) zX0
set_option maxRecDepth 100000 in
theorem w_Text_takeKind (μ : ZMem) : AW cf_Text_takeKind S_Text.length S_Text S_Text 0 [(0, zR (some 0))] [] μ 0 0 (F_Text_takeKind μ) := by
  unfold F_Text_takeKind
  refine AW.aload_n (i := 0) (a := 0) (by decide +kernel) rfl (?_ : AW _ _ _ _ 1 _ _ _ _ _ _)
  refine AW.ldcs (idx := 55) (tx := "call") (j := 11) (q := 1000011) (by decide +kernel) (by decide +kernel) rfl (?_ : AW _ _ _ _ 3 _ _ _ _ _ _)
  refine AW.callVw (g := cf_Text_takeWord) (av := [zR (some (zSB + 11))]) (b0 := 0) (ci := 6) (idx := 57) (n := 1) (st := []) (by decide +kernel) (fun l hl r hr => c_Text_takeWord l hl 11 _ r hr) S_Text_wf rfl cal_Text_takeWord rfl (zw4 zm_X6_57 zi_yX6_takeWord zs_yX6_takeWord zn_X6) rfl rfl ⟨by decide, by decide, by decide, by decide⟩ (Nat.le_of_ble_eq_true rfl) (Or.inl rfl) (fun v μ1 => AW.kI (fun x2 => (?_ : AW _ _ _ _ 6 _ _ _ _ _ _)) v)
  refine AW.if_eq (off := 5) (tgt := 11) (by decide +kernel) (by decide) (fun _ => ?_) (fun _ => ?_)
  · refine AW.aload_n (i := 0) (a := 0) (by decide +kernel) rfl (?_ : AW _ _ _ _ 12 _ _ _ _ _ _)
    refine AW.ldcs (idx := 61) (tx := "sell") (j := 12) (q := 1000012) (by decide +kernel) (by decide +kernel) rfl (?_ : AW _ _ _ _ 14 _ _ _ _ _ _)
    refine AW.callVw (g := cf_Text_takeWord) (av := [zR (some (zSB + 12))]) (b0 := 0) (ci := 6) (idx := 57) (n := 1) (st := []) (by decide +kernel) (fun l hl r hr => c_Text_takeWord l hl 12 _ r hr) S_Text_wf rfl cal_Text_takeWord rfl (zw4 zm_X6_57 zi_yX6_takeWord zs_yX6_takeWord zn_X6) rfl rfl ⟨by decide, by decide, by decide, by decide⟩ (Nat.le_of_ble_eq_true rfl) (Or.inl rfl) (fun v μ3 => AW.kI (fun x4 => (?_ : AW _ _ _ _ 17 _ _ _ _ _ _)) v)
    refine AW.if_eq (off := 5) (tgt := 22) (by decide +kernel) (by decide) (fun _ => ?_) (fun _ => ?_)
    · refine AW.aload_n (i := 0) (a := 0) (by decide +kernel) rfl (?_ : AW _ _ _ _ 23 _ _ _ _ _ _)
      refine AW.ldcs (idx := 63) (tx := "mark") (j := 13) (q := 1000013) (by decide +kernel) (by decide +kernel) rfl (?_ : AW _ _ _ _ 25 _ _ _ _ _ _)
      refine AW.callVw (g := cf_Text_takeWord) (av := [zR (some (zSB + 13))]) (b0 := 0) (ci := 6) (idx := 57) (n := 1) (st := []) (by decide +kernel) (fun l hl r hr => c_Text_takeWord l hl 13 _ r hr) S_Text_wf rfl cal_Text_takeWord rfl (zw4 zm_X6_57 zi_yX6_takeWord zs_yX6_takeWord zn_X6) rfl rfl ⟨by decide, by decide, by decide, by decide⟩ (Nat.le_of_ble_eq_true rfl) (Or.inl rfl) (fun v μ5 => AW.kI (fun x6 => (?_ : AW _ _ _ _ 28 _ _ _ _ _ _)) v)
      refine AW.if_eq (off := 5) (tgt := 33) (by decide +kernel) (by decide) (fun _ => ?_) (fun _ => ?_)
      · refine AW.aload_n (i := 0) (a := 0) (by decide +kernel) rfl (?_ : AW _ _ _ _ 34 _ _ _ _ _ _)
        refine AW.ldcs (idx := 65) (tx := "wait") (j := 14) (q := 1000014) (by decide +kernel) (by decide +kernel) rfl (?_ : AW _ _ _ _ 36 _ _ _ _ _ _)
        refine AW.callVw (g := cf_Text_takeWord) (av := [zR (some (zSB + 14))]) (b0 := 0) (ci := 6) (idx := 57) (n := 1) (st := []) (by decide +kernel) (fun l hl r hr => c_Text_takeWord l hl 14 _ r hr) S_Text_wf rfl cal_Text_takeWord rfl (zw4 zm_X6_57 zi_yX6_takeWord zs_yX6_takeWord zn_X6) rfl rfl ⟨by decide, by decide, by decide, by decide⟩ (Nat.le_of_ble_eq_true rfl) (Or.inl rfl) (fun v μ7 => AW.kI (fun x8 => (?_ : AW _ _ _ _ 39 _ _ _ _ _ _)) v)
        refine AW.if_eq (off := 5) (tgt := 44) (by decide +kernel) (by decide) (fun _ => ?_) (fun _ => ?_)
        · refine AW.aload_n (i := 0) (a := 0) (by decide +kernel) rfl (?_ : AW _ _ _ _ 45 _ _ _ _ _ _)
          refine AW.ldcs (idx := 67) (tx := "fail") (j := 15) (q := 1000015) (by decide +kernel) (by decide +kernel) rfl (?_ : AW _ _ _ _ 47 _ _ _ _ _ _)
          refine AW.callVw (g := cf_Text_takeWord) (av := [zR (some (zSB + 15))]) (b0 := 0) (ci := 6) (idx := 57) (n := 1) (st := []) (by decide +kernel) (fun l hl r hr => c_Text_takeWord l hl 15 _ r hr) S_Text_wf rfl cal_Text_takeWord rfl (zw4 zm_X6_57 zi_yX6_takeWord zs_yX6_takeWord zn_X6) rfl rfl ⟨by decide, by decide, by decide, by decide⟩ (Nat.le_of_ble_eq_true rfl) (Or.inl rfl) (fun v μ9 => AW.kI (fun x10 => (?_ : AW _ _ _ _ 50 _ _ _ _ _ _)) v)
          refine AW.if_eq (off := 5) (tgt := 55) (by decide +kernel) (by decide) (fun _ => ?_) (fun _ => ?_)
          · refine AW.aload_n (i := 0) (a := 0) (by decide +kernel) rfl (?_ : AW _ _ _ _ 56 _ _ _ _ _ _)
            refine AW.ldcs (idx := 69) (tx := "move") (j := 16) (q := 1000016) (by decide +kernel) (by decide +kernel) rfl (?_ : AW _ _ _ _ 58 _ _ _ _ _ _)
            refine AW.callVw (g := cf_Text_takeWord) (av := [zR (some (zSB + 16))]) (b0 := 0) (ci := 6) (idx := 57) (n := 1) (st := []) (by decide +kernel) (fun l hl r hr => c_Text_takeWord l hl 16 _ r hr) S_Text_wf rfl cal_Text_takeWord rfl (zw4 zm_X6_57 zi_yX6_takeWord zs_yX6_takeWord zn_X6) rfl rfl ⟨by decide, by decide, by decide, by decide⟩ (Nat.le_of_ble_eq_true rfl) (Or.inl rfl) (fun v μ11 => AW.kI (fun x12 => (?_ : AW _ _ _ _ 61 _ _ _ _ _ _)) v)
            refine AW.if_eq (off := 6) (tgt := 67) (by decide +kernel) (by decide) (fun _ => ?_) (fun _ => ?_)
            · refine AW.aload_n (i := 0) (a := 0) (by decide +kernel) rfl (?_ : AW _ _ _ _ 68 _ _ _ _ _ _)
              refine AW.ldcs (idx := 71) (tx := "end") (j := 17) (q := 1000017) (by decide +kernel) (by decide +kernel) rfl (?_ : AW _ _ _ _ 70 _ _ _ _ _ _)
              refine AW.callVw (g := cf_Text_takeWord) (av := [zR (some (zSB + 17))]) (b0 := 0) (ci := 6) (idx := 57) (n := 1) (st := []) (by decide +kernel) (fun l hl r hr => c_Text_takeWord l hl 17 _ r hr) S_Text_wf rfl cal_Text_takeWord rfl (zw4 zm_X6_57 zi_yX6_takeWord zs_yX6_takeWord zn_X6) rfl rfl ⟨by decide, by decide, by decide, by decide⟩ (Nat.le_of_ble_eq_true rfl) (Or.inl rfl) (fun v μ13 => AW.kI (fun x14 => (?_ : AW _ _ _ _ 73 _ _ _ _ _ _)) v)
              refine AW.if_eq (off := 8) (tgt := 81) (by decide +kernel) (by decide) (fun _ => ?_) (fun _ => ?_)
              · refine AW.iconst (n := -1) (by decide +kernel) (?_ : AW _ _ _ _ 82 _ _ _ _ _ _)
                exact AW.reti (by decide +kernel) rfl (by decide) (by decide)
              · refine AW.bipush (n := 6) (by decide +kernel) (by decide +kernel) (?_ : AW _ _ _ _ 78 _ _ _ _ _ _)
                refine AW.goto (off := 4) (tgt := 82) (by decide +kernel) (by decide) ?_
                exact AW.reti (by decide +kernel) rfl (by decide) (by decide)
            · refine AW.bipush (n := 7) (by decide +kernel) (by decide +kernel) (?_ : AW _ _ _ _ 66 _ _ _ _ _ _)
              exact AW.reti (by decide +kernel) rfl (by decide) (by decide)
          · refine AW.iconst (n := 5) (by decide +kernel) (?_ : AW _ _ _ _ 54 _ _ _ _ _ _)
            exact AW.reti (by decide +kernel) rfl (by decide) (by decide)
        · refine AW.iconst (n := 4) (by decide +kernel) (?_ : AW _ _ _ _ 43 _ _ _ _ _ _)
          exact AW.reti (by decide +kernel) rfl (by decide) (by decide)
      · refine AW.iconst (n := 3) (by decide +kernel) (?_ : AW _ _ _ _ 32 _ _ _ _ _ _)
        exact AW.reti (by decide +kernel) rfl (by decide) (by decide)
    · refine AW.iconst (n := 1) (by decide +kernel) (?_ : AW _ _ _ _ 21 _ _ _ _ _ _)
      exact AW.reti (by decide +kernel) rfl (by decide) (by decide)
  · refine AW.iconst (n := 0) (by decide +kernel) (?_ : AW _ _ _ _ 10 _ _ _ _ _ _)
    exact AW.reti (by decide +kernel) rfl (by decide) (by decide)
theorem c_Text_takeKind (l : Launch) (hl : l.stackTraces = false) (μ : ZMem) (r : ZRes) (h : F_Text_takeKind μ = some r) : ZC l cf_Text_takeKind S_Text S_Text [zR (some 0)] μ r := ZC.of hl (by decide +kernel) rfl rfl zft_X6_ok (Nat.le_of_ble_eq_true rfl) h (w_Text_takeKind μ)
