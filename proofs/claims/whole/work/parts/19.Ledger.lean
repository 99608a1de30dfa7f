def S_Ledger : List ZSh := [.inl (8, [(2, some 1), (2, some 3), (2, some 7), (2, some 11), (2, some 13), (2, some 32), (2, some 51), (2, some 97), (2, some 103), (2, some 109), (2, some 113), (3, none)]), .inl (6, [(2, some 2), (0, none), (0, none), (0, none)]), .inr (0, 400, []), .inl (1, [(2, some 4), (2, some 5), (2, some 6), (0, none), (0, none), (3, none)]), .inr (0, 7, []), .inr (0, 6, []), .inr (0, 6, []), .inl (1, [(2, some 8), (2, some 9), (2, some 10), (0, none), (0, none), (3, none)]), .inr (0, 7, []), .inr (0, 6, []), .inr (0, 6, []), .inl (2, [(2, some 12), (0, none)]), .inr (0, 420, []), .inl (5, [(2, some 14), (2, some 20), (3, none), (2, some 29), (1, none), (1, none)]), .inl (0, [(2, some 15), (2, some 16), (2, some 17), (2, some 18), (2, some 19), (0, none), (0, none), (3, none)]), .inr (0, 7, []), .inr (1, 32, []), .inr (0, 24, []), .inr (1, 4, []), .inr (1, 6, []), .inl (4, [(2, some 21), (2, some 22), (2, some 23), (2, some 24), (2, some 25), (2, some 26), (2, some 27), (2, some 28), (0, none), (0, none), (1, none)]), .inr (0, 6, []), .inr (0, 6, []), .inr (0, 6, []), .inr (1, 6, []), .inr (0, 6, []), .inr (1, 6, []), .inr (1, 6, []), .inr (1, 6, []), .inl (7, [(2, some 30), (2, some 31)]), .inr (1, 1407, []), .inr (1, 201, []), .inl (5, [(2, some 33), (2, some 39), (3, none), (2, some 48), (1, none), (1, none)]), .inl (0, [(2, some 34), (2, some 35), (2, some 36), (2, some 37), (2, some 38), (0, none), (0, none), (3, none)]), .inr (0, 7, []), .inr (1, 32, []), .inr (0, 24, []), .inr (1, 4, []), .inr (1, 6, []), .inl (4, [(2, some 40), (2, some 41), (2, some 42), (2, some 43), (2, some 44), (2, some 45), (2, some 46), (2, some 47), (0, none), (0, none), (1, none)]), .inr (0, 6, []), .inr (0, 6, []), .inr (0, 6, []), .inr (1, 6, []), .inr (0, 6, []), .inr (1, 6, []), .inr (1, 6, []), .inr (1, 6, []), .inl (7, [(2, some 49), (2, some 50)]), .inr (1, 0, []), .inr (1, 0, []), .inl (3, [(2, some 52), (2, some 95), (2, some 96), (0, none), (1, none)]), .inr (2, 7, [some 53, some 59, some 65, some 71, some 77, some 83, some 89]), .inl (0, [(2, some 54), (2, some 55), (2, some 56), (2, some 57), (2, some 58), (0, none), (0, none), (3, none)]), .inr (0, 7, []), .inr (1, 32, []), .inr (0, 24, []), .inr (1, 4, []), .inr (1, 6, []), .inl (0, [(2, some 60), (2, some 61), (2, some 62), (2, some 63), (2, some 64), (0, none), (0, none), (3, none)]), .inr (0, 7, []), .inr (1, 32, []), .inr (0, 24, []), .inr (1, 4, []), .inr (1, 6, []), .inl (0, [(2, some 66), (2, some 67), (2, some 68), (2, some 69), (2, some 70), (0, none), (0, none), (3, none)]), .inr (0, 7, []), .inr (1, 32, []), .inr (0, 24, []), .inr (1, 4, []), .inr (1, 6, []), .inl (0, [(2, some 72), (2, some 73), (2, some 74), (2, some 75), (2, some 76), (0, none), (0, none), (3, none)]), .inr (0, 7, []), .inr (1, 32, []), .inr (0, 24, []), .inr (1, 4, []), .inr (1, 6, []), .inl (0, [(2, some 78), (2, some 79), (2, some 80), (2, some 81), (2, some 82), (0, none), (0, none), (3, none)]), .inr (0, 7, []), .inr (1, 32, []), .inr (0, 24, []), .inr (1, 4, []), .inr (1, 6, []), .inl (0, [(2, some 84), (2, some 85), (2, some 86), (2, some 87), (2, some 88), (0, none), (0, none), (3, none)]), .inr (0, 7, []), .inr (1, 32, []), .inr (0, 24, []), .inr (1, 4, []), .inr (1, 6, []), .inl (0, [(2, some 90), (2, some 91), (2, some 92), (2, some 93), (2, some 94), (0, none), (0, none), (3, none)]), .inr (0, 7, []), .inr (1, 32, []), .inr (0, 24, []), .inr (1, 4, []), .inr (1, 6, []), .inr (0, 6, []), .inr (0, 6, []), .inl (0, [(2, some 98), (2, some 99), (2, some 100), (2, some 101), (2, some 102), (0, none), (0, none), (3, none)]), .inr (0, 7, []), .inr (1, 32, []), .inr (0, 24, []), .inr (1, 4, []), .inr (1, 6, []), .inl (0, [(2, some 104), (2, some 105), (2, some 106), (2, some 107), (2, some 108), (0, none), (0, none), (3, none)]), .inr (0, 7, []), .inr (1, 32, []), .inr (0, 24, []), .inr (1, 4, []), .inr (1, 6, []), .inl (1, [(2, some 110), (2, some 111), (2, some 112), (0, none), (0, none), (3, none)]), .inr (0, 7, []), .inr (0, 6, []), .inr (0, 6, []), .inl (2, [(2, some 114), (0, none)]), .inr (0, 420, [])]
theorem S_Ledger_wf : zWfS S_Ledger.length S_Ledger = true ∧ Nat.ble S_Ledger.length 1000 = true := ⟨by decide +kernel, rfl⟩
theorem sb_44 : zSub S_Ledger [1, 2] S_Text := ⟨rfl, by decide +kernel, by decide +kernel, rfl⟩
/-! WeirLedger.feed(IIIII)I -/
def cf_Ledger_feed : ZCf := (yX8_feed, cX8_feed, 6, some .int, [], 3, 0, 0, zft_X8, none)
theorem cal_Ledger_feed : zCallee cf_Ledger_feed 5 := ⟨rfl, zc_yX8_feed, by decide, by decide, by decide +kernel⟩
def F_Ledger_feed (a1 : Int) (a2 : Int) (a3 : Int) (a4 : Int) (a5 : Int) (μ : ZMem) : Option ZRes := if w32 ((μ 1 1) + 20) ≤ w32 400 then (zCm [1, 2] μ (F_Text_append a1 (zVw [1, 2] μ)) (zkV (fun μ1 => zCm [1, 2] μ1 (F_Text_append a2 (zVw [1, 2] μ1)) (zkV (fun μ3 => zCm [1, 2] μ3 (F_Text_append a3 (zVw [1, 2] μ3)) (zkV (fun μ5 => zCm [1, 2] μ5 (F_Text_append a4 (zVw [1, 2] μ5)) (zkV (fun μ7 => zCm [1, 2] μ7 (F_Text_append a5 (zVw [1, 2] μ7)) (zkV (fun μ9 => some (.inr (some (zI (μ9 1 1))), μ9))) zX0)) zX0)) zX0)) zX0)) zX0) else (some (.inr (some (zI (-1))), μ))
set_option maxRecDepth 100000 in
theorem w_Ledger_feed (a1 : Int) (a2 : Int) (a3 : Int) (a4 : Int) (a5 : Int) (μ : ZMem) : AW cf_Ledger_feed S_Ledger.length S_Ledger S_Ledger 0 [(0, zR (some 0)), (1, zI a1), (2, zI a2), (3, zI a3), (4, zI a4), (5, zI a5)] [] μ 0 0 (F_Ledger_feed a1 a2 a3 a4 a5 μ) := by
  unfold F_Ledger_feed
  refine AW.aload_n (i := 0) (a := 0) (by decide +kernel) rfl (?_ : AW _ _ _ _ 1 _ _ _ _ _ _)
  refine AW.getR (idx := 10) (ci := 8) (k := 0) (r := 0) (by decide +kernel) rfl rfl rfl (?_ : AW _ _ _ _ 4 _ _ _ _ _ _)
  refine AW.getI (idx := 68) (ci := 6) (k := 1) (r := 1) (by decide +kernel) rfl rfl rfl (?_ : AW _ _ _ _ 7 _ _ _ _ _ _)
  refine AW.bipush (n := 20) (by decide +kernel) (by decide +kernel) (?_ : AW _ _ _ _ 9 _ _ _ _ _ _)
  refine AW.iadd (by decide +kernel) (?_ : AW _ _ _ _ 10 _ _ _ _ _ _)
  refine AW.sipush (n := 400) (by decide +kernel) (by decide +kernel) (?_ : AW _ _ _ _ 13 _ _ _ _ _ _)
  refine AW.icmp_le (off := 5) (tgt := 18) (by decide +kernel) (by decide) (fun _ => ?_) (fun _ => ?_)
  · refine AW.aload_n (i := 0) (a := 0) (by decide +kernel) rfl (?_ : AW _ _ _ _ 19 _ _ _ _ _ _)
    refine AW.getR (idx := 10) (ci := 8) (k := 0) (r := 0) (by decide +kernel) rfl rfl rfl (?_ : AW _ _ _ _ 22 _ _ _ _ _ _)
    refine AW.iload_n (i := 1) (a := a1) (by decide +kernel) rfl (?_ : AW _ _ _ _ 23 _ _ _ _ _ _)
    refine AW.callVm (g := cf_Text_append) (Sg := S_Text) (pl := [1, 2]) (av := [zI a1]) (b0 := 0) (ci := 6) (idx := 72) (n := 1) (st := []) (by decide +kernel) (fun l hl r hr => c_Text_append l hl a1 _ r hr) sb_44 rfl cal_Text_append rfl (zw4 zm_X8_72 zi_yX6_append zs_yX6_append zn_X6) rfl rfl ⟨by decide, by decide, by decide, by decide⟩ (Nat.le_of_ble_eq_true rfl) (Or.inl rfl) (fun v μ1 => AW.rV (?_ : AW _ _ _ _ 26 _ _ _ _ _ _) v)
    refine AW.aload_n (i := 0) (a := 0) (by decide +kernel) rfl (?_ : AW _ _ _ _ 27 _ _ _ _ _ _)
    refine AW.getR (idx := 10) (ci := 8) (k := 0) (r := 0) (by decide +kernel) rfl rfl rfl (?_ : AW _ _ _ _ 30 _ _ _ _ _ _)
    refine AW.iload_n (i := 2) (a := a2) (by decide +kernel) rfl (?_ : AW _ _ _ _ 31 _ _ _ _ _ _)
    refine AW.callVm (g := cf_Text_append) (Sg := S_Text) (pl := [1, 2]) (av := [zI a2]) (b0 := 0) (ci := 6) (idx := 72) (n := 1) (st := []) (by decide +kernel) (fun l hl r hr => c_Text_append l hl a2 _ r hr) sb_44 rfl cal_Text_append rfl (zw4 zm_X8_72 zi_yX6_append zs_yX6_append zn_X6) rfl rfl ⟨by decide, by decide, by decide, by decide⟩ (Nat.le_of_ble_eq_true rfl) (Or.inl rfl) (fun v μ3 => AW.rV (?_ : AW _ _ _ _ 34 _ _ _ _ _ _) v)
    refine AW.aload_n (i := 0) (a := 0) (by decide +kernel) rfl (?_ : AW _ _ _ _ 35 _ _ _ _ _ _)
    refine AW.getR (idx := 10) (ci := 8) (k := 0) (r := 0) (by decide +kernel) rfl rfl rfl (?_ : AW _ _ _ _ 38 _ _ _ _ _ _)
    refine AW.iload_n (i := 3) (a := a3) (by decide +kernel) rfl (?_ : AW _ _ _ _ 39 _ _ _ _ _ _)
    refine AW.callVm (g := cf_Text_append) (Sg := S_Text) (pl := [1, 2]) (av := [zI a3]) (b0 := 0) (ci := 6) (idx := 72) (n := 1) (st := []) (by decide +kernel) (fun l hl r hr => c_Text_append l hl a3 _ r hr) sb_44 rfl cal_Text_append rfl (zw4 zm_X8_72 zi_yX6_append zs_yX6_append zn_X6) rfl rfl ⟨by decide, by decide, by decide, by decide⟩ (Nat.le_of_ble_eq_true rfl) (Or.inl rfl) (fun v μ5 => AW.rV (?_ : AW _ _ _ _ 42 _ _ _ _ _ _) v)
    refine AW.aload_n (i := 0) (a := 0) (by decide +kernel) rfl (?_ : AW _ _ _ _ 43 _ _ _ _ _ _)
    refine AW.getR (idx := 10) (ci := 8) (k := 0) (r := 0) (by decide +kernel) rfl rfl rfl (?_ : AW _ _ _ _ 46 _ _ _ _ _ _)
    refine AW.iload (i := 4) (a := a4) (by decide +kernel) rfl (?_ : AW _ _ _ _ 48 _ _ _ _ _ _)
    refine AW.callVm (g := cf_Text_append) (Sg := S_Text) (pl := [1, 2]) (av := [zI a4]) (b0 := 0) (ci := 6) (idx := 72) (n := 1) (st := []) (by decide +kernel) (fun l hl r hr => c_Text_append l hl a4 _ r hr) sb_44 rfl cal_Text_append rfl (zw4 zm_X8_72 zi_yX6_append zs_yX6_append zn_X6) rfl rfl ⟨by decide, by decide, by decide, by decide⟩ (Nat.le_of_ble_eq_true rfl) (Or.inl rfl) (fun v μ7 => AW.rV (?_ : AW _ _ _ _ 51 _ _ _ _ _ _) v)
    refine AW.aload_n (i := 0) (a := 0) (by decide +kernel) rfl (?_ : AW _ _ _ _ 52 _ _ _ _ _ _)
    refine AW.getR (idx := 10) (ci := 8) (k := 0) (r := 0) (by decide +kernel) rfl rfl rfl (?_ : AW _ _ _ _ 55 _ _ _ _ _ _)
    refine AW.iload (i := 5) (a := a5) (by decide +kernel) rfl (?_ : AW _ _ _ _ 57 _ _ _ _ _ _)
    refine AW.callVm (g := cf_Text_append) (Sg := S_Text) (pl := [1, 2]) (av := [zI a5]) (b0 := 0) (ci := 6) (idx := 72) (n := 1) (st := []) (by decide +kernel) (fun l hl r hr => c_Text_append l hl a5 _ r hr) sb_44 rfl cal_Text_append rfl (zw4 zm_X8_72 zi_yX6_append zs_yX6_append zn_X6) rfl rfl ⟨by decide, by decide, by decide, by decide⟩ (Nat.le_of_ble_eq_true rfl) (Or.inl rfl) (fun v μ9 => AW.rV (?_ : AW _ _ _ _ 60 _ _ _ _ _ _) v)
    refine AW.aload_n (i := 0) (a := 0) (by decide +kernel) rfl (?_ : AW _ _ _ _ 61 _ _ _ _ _ _)
    refine AW.getR (idx := 10) (ci := 8) (k := 0) (r := 0) (by decide +kernel) rfl rfl rfl (?_ : AW _ _ _ _ 64 _ _ _ _ _ _)
    refine AW.getI (idx := 68) (ci := 6) (k := 1) (r := 1) (by decide +kernel) rfl rfl rfl (?_ : AW _ _ _ _ 67 _ _ _ _ _ _)
    exact AW.reti (by decide +kernel) rfl (by decide) (by decide)
  · refine AW.iconst (n := -1) (by decide +kernel) (?_ : AW _ _ _ _ 17 _ _ _ _ _ _)
    exact AW.reti (by decide +kernel) rfl (by decide) (by decide)
theorem c_Ledger_feed (l : Launch) (hl : l.stackTraces = false) (a1 : Int) (a2 : Int) (a3 : Int) (a4 : Int) (a5 : Int) (μ : ZMem) (r : ZRes) (h : F_Ledger_feed a1 a2 a3 a4 a5 μ = some r) : ZC l cf_Ledger_feed S_Ledger S_Ledger [zR (some 0), zI a1, zI a2, zI a3, zI a4, zI a5] μ r := ZC.of hl (by decide +kernel) rfl rfl zft_X8_ok (Nat.le_of_ble_eq_true rfl) h (w_Ledger_feed a1 a2 a3 a4 a5 μ)
/-! WeirLedger.end(I)Z -/
def cf_Ledger_end : ZCf := (yX8_end, cX8_end, 2, some .boolean, [], 2, 0, 0, zft_X8, none)
theorem cal_Ledger_end : zCallee cf_Ledger_end 1 := ⟨rfl, zc_yX8_end, by decide, by decide, by decide +kernel⟩
def F_Ledger_end (a1 : Int) (μ : ZMem) : Option ZRes := if w32 a1 < 0 then (some (.inr (some (zI 0)), μ)) else (if w32 a1 ≤ w32 (μ 1 1) then (zLet (zUp μ 1 1 a1) (fun μ1 => some (.inr (some (zI 1)), μ1))) else (some (.inr (some (zI 0)), μ)))
set_option maxRecDepth 100000 in
theorem w_Ledger_end (a1 : Int) (μ : ZMem) : AW cf_Ledger_end S_Ledger.length S_Ledger S_Ledger 0 [(0, zR (some 0)), (1, zI a1)] [] μ 0 0 (F_Ledger_end a1 μ) := by
  unfold F_Ledger_end
  refine AW.iload_n (i := 1) (a := a1) (by decide +kernel) rfl (?_ : AW _ _ _ _ 1 _ _ _ _ _ _)
  refine AW.if_lt (off := 14) (tgt := 15) (by decide +kernel) (by decide) (fun _ => ?_) (fun _ => ?_)
  · refine AW.iconst (n := 0) (by decide +kernel) (?_ : AW _ _ _ _ 16 _ _ _ _ _ _)
    exact AW.retb1 (by decide +kernel) rfl (by decide) (by decide) (by decide)
  · refine AW.iload_n (i := 1) (a := a1) (by decide +kernel) rfl (?_ : AW _ _ _ _ 5 _ _ _ _ _ _)
    refine AW.aload_n (i := 0) (a := 0) (by decide +kernel) rfl (?_ : AW _ _ _ _ 6 _ _ _ _ _ _)
    refine AW.getR (idx := 10) (ci := 8) (k := 0) (r := 0) (by decide +kernel) rfl rfl rfl (?_ : AW _ _ _ _ 9 _ _ _ _ _ _)
    refine AW.getI (idx := 68) (ci := 6) (k := 1) (r := 1) (by decide +kernel) rfl rfl rfl (?_ : AW _ _ _ _ 12 _ _ _ _ _ _)
    refine AW.icmp_le (off := 5) (tgt := 17) (by decide +kernel) (by decide) (fun _ => ?_) (fun _ => ?_)
    · refine AW.aload_n (i := 0) (a := 0) (by decide +kernel) rfl (?_ : AW _ _ _ _ 18 _ _ _ _ _ _)
      refine AW.getR (idx := 10) (ci := 8) (k := 0) (r := 0) (by decide +kernel) rfl rfl rfl (?_ : AW _ _ _ _ 21 _ _ _ _ _ _)
      refine AW.iload_n (i := 1) (a := a1) (by decide +kernel) rfl (?_ : AW _ _ _ _ 22 _ _ _ _ _ _)
      refine AW.putiL (idx := 68) (ci := 6) (k := 1) (r := 1) (by decide +kernel) rfl rfl rfl (fun μ1 => (?_ : AW _ _ _ _ 25 _ _ _ _ _ _))
      refine AW.iconst (n := 1) (by decide +kernel) (?_ : AW _ _ _ _ 26 _ _ _ _ _ _)
      exact AW.retb1 (by decide +kernel) rfl (by decide) (by decide) (by decide)
    · refine AW.iconst (n := 0) (by decide +kernel) (?_ : AW _ _ _ _ 16 _ _ _ _ _ _)
      exact AW.retb1 (by decide +kernel) rfl (by decide) (by decide) (by decide)
theorem c_Ledger_end (l : Launch) (hl : l.stackTraces = false) (a1 : Int) (μ : ZMem) (r : ZRes) (h : F_Ledger_end a1 μ = some r) : ZC l cf_Ledger_end S_Ledger S_Ledger [zR (some 0), zI a1] μ r := ZC.of hl (by decide +kernel) rfl rfl zft_X8_ok (Nat.le_of_ble_eq_true rfl) h (w_Ledger_end a1 μ)
theorem sb_45 : zSub S_Ledger [7, 8, 9, 10, 1, 2] S_Fund3 := ⟨rfl, by decide +kernel, by decide +kernel, rfl⟩
theorem sb_46 : zSub S_Ledger [3, 4, 5, 6, 7, 8, 9, 10] S_Fund2 := ⟨rfl, by decide +kernel, by decide +kernel, rfl⟩
theorem sb_47 : zSub S_Ledger [13, 14, 15, 16, 17, 18, 19, 20, 21, 22, 23, 24, 25, 26, 27, 28, 29, 30, 31, 3, 4, 5, 6] S_State := ⟨rfl, by decide +kernel, by decide +kernel, rfl⟩
theorem sb_48 : zSub S_Ledger [13, 14, 15, 16, 17, 18, 19, 20, 21, 22, 23, 24, 25, 26, 27, 28, 29, 30, 31, 11, 12] S_State3 := ⟨rfl, by decide +kernel, by decide +kernel, rfl⟩
/-! WeirLedger.goThroughAnew()V -/
def cf_Ledger_goThroughAnew : ZCf := (yX8_goThroughAnew, cX8_goThroughAnew, 2, none, [], 7, 0, 0, zft_X8, none)
theorem cal_Ledger_goThroughAnew : zCallee cf_Ledger_goThroughAnew 0 := ⟨rfl, zc_yX8_goThroughAnew, by decide, by decide, by decide +kernel⟩
def L_Ledger_goThroughAnew_13 (K : ZMem → Option ZRes) : Nat → Int → ZMem → Option ZRes
  | 0, _, _ => none
  | n + 1, v1, μ => if w32 (μ 11 1) ≤ w32 v1 then (K  μ) else (zCm [13, 14, 15, 16, 17, 18, 19, 20, 21, 22, 23, 24, 25, 26, 27, 28, 29, 30, 31, 11, 12] μ (F_State_follow v1 (zVw [13, 14, 15, 16, 17, 18, 19, 20, 21, 22, 23, 24, 25, 26, 27, 28, 29, 30, 31, 11, 12] μ)) (zkI (fun x4 μ3 => zLet (v1 + 1) (fun x5 => L_Ledger_goThroughAnew_13 K n x5 μ3))) zX0)
set_option maxRecDepth 100000 in
theorem l_Ledger_goThroughAnew_13 {K : ZMem → Option ZRes} (hK : ∀ (μ : ZMem), AW cf_Ledger_goThroughAnew S_Ledger.length S_Ledger S_Ledger 43 [] [] μ 0 0 (K μ)) : ∀ (n : Nat) (v1 : Int) (μ : ZMem), AW cf_Ledger_goThroughAnew S_Ledger.length S_Ledger S_Ledger 13 [(0, zR (some 0)), (1, zI v1)] [] μ 0 0 (L_Ledger_goThroughAnew_13 K n v1 μ) := by
  intro n
  induction n with
  | zero => intro v1 μ; exact AW.noth
  | succ n ih =>
    intro v1 μ
    rw [L_Ledger_goThroughAnew_13]
    refine AW.iload_n (i := 1) (a := v1) (by decide +kernel) rfl (?_ : AW _ _ _ _ 14 _ _ _ _ _ _)
    refine AW.aload_n (i := 0) (a := 0) (by decide +kernel) rfl (?_ : AW _ _ _ _ 15 _ _ _ _ _ _)
    refine AW.getR (idx := 29) (ci := 8) (k := 3) (r := 0) (by decide +kernel) rfl rfl rfl (?_ : AW _ _ _ _ 18 _ _ _ _ _ _)
    refine AW.getI (idx := 90) (ci := 2) (k := 1) (r := 11) (by decide +kernel) rfl rfl rfl (?_ : AW _ _ _ _ 21 _ _ _ _ _ _)
    refine AW.icmp_ge (off := 22) (tgt := 43) (by decide +kernel) (by decide) (fun _ => ?_) (fun _ => ?_)
    · refine AW.sub (L' := []) [] rfl ?_
      exact hK  μ
    · refine AW.aload_n (i := 0) (a := 0) (by decide +kernel) rfl (?_ : AW _ _ _ _ 25 _ _ _ _ _ _)
      refine AW.getR (idx := 38) (ci := 8) (k := 4) (r := 0) (by decide +kernel) rfl rfl rfl (?_ : AW _ _ _ _ 28 _ _ _ _ _ _)
      refine AW.aload_n (i := 0) (a := 0) (by decide +kernel) rfl (?_ : AW _ _ _ _ 29 _ _ _ _ _ _)
      refine AW.getR (idx := 29) (ci := 8) (k := 3) (r := 0) (by decide +kernel) rfl rfl rfl (?_ : AW _ _ _ _ 32 _ _ _ _ _ _)
      refine AW.iload_n (i := 1) (a := v1) (by decide +kernel) rfl (?_ : AW _ _ _ _ 33 _ _ _ _ _ _)
      refine AW.callVm (g := cf_State_follow) (Sg := S_State3) (pl := [13, 14, 15, 16, 17, 18, 19, 20, 21, 22, 23, 24, 25, 26, 27, 28, 29, 30, 31, 11, 12]) (av := [zR (some 19), zI v1]) (b0 := 0) (ci := 5) (idx := 232) (n := 2) (st := []) (by decide +kernel) (fun l hl r hr => c_State_follow l hl v1 _ r hr) sb_48 rfl cal_State_follow rfl (zw4 zm_X8_232 zi_yX5_follow zs_yX5_follow zn_X5) rfl rfl ⟨by decide, by decide, by decide, by decide⟩ (Nat.le_of_ble_eq_true rfl) (Or.inl rfl) (fun v μ3 => AW.rI (fun x4 => (?_ : AW _ _ _ _ 36 _ _ _ _ _ _)) v)
      refine AW.pop (by decide +kernel) rfl (?_ : AW _ _ _ _ 37 _ _ _ _ _ _)
      refine AW.iincL (i := 1) (n := 1) (a := v1) (L' := fun x5 => [(1, zI x5), (0, zR (some 0))]) (by decide +kernel) rfl (by decide) (fun _ => rfl) (fun x5 => (?_ : AW _ _ _ _ 40 _ _ _ _ _ _))
      refine AW.goto (off := -27) (tgt := 13) (by decide +kernel) (by decide) ?_
      refine AW.sub (L' := [(0, zR (some 0)), (1, zI x5)]) [1, 0] rfl ?_
      exact ih x5 μ3
def F_Ledger_goThroughAnew (μ : ZMem) : Option ZRes := zCm [13, 14, 15, 16, 17, 18, 19, 20, 21, 22, 23, 24, 25, 26, 27, 28, 29, 30, 31, 3, 4, 5, 6] μ (F_State_open  (zVw [13, 14, 15, 16, 17, 18, 19, 20, 21, 22, 23, 24, 25, 26, 27, 28, 29, 30, 31, 3, 4, 5, 6] μ)) (zkV (fun μ1 => L_Ledger_goThroughAnew_13 (fun μ6 => some (.inr none, μ6)) zN 0 μ1)) zX0
set_option maxRecDepth 100000 in
theorem w_Ledger_goThroughAnew (μ : ZMem) : AW cf_Ledger_goThroughAnew S_Ledger.length S_Ledger S_Ledger 0 [(0, zR (some 0))] [] μ 0 0 (F_Ledger_goThroughAnew μ) := by
  unfold F_Ledger_goThroughAnew
  refine AW.aload_n (i := 0) (a := 0) (by decide +kernel) rfl (?_ : AW _ _ _ _ 1 _ _ _ _ _ _)
  refine AW.getR (idx := 38) (ci := 8) (k := 4) (r := 0) (by decide +kernel) rfl rfl rfl (?_ : AW _ _ _ _ 4 _ _ _ _ _ _)
  refine AW.aload_n (i := 0) (a := 0) (by decide +kernel) rfl (?_ : AW _ _ _ _ 5 _ _ _ _ _ _)
  refine AW.getR (idx := 19) (ci := 8) (k := 1) (r := 0) (by decide +kernel) rfl rfl rfl (?_ : AW _ _ _ _ 8 _ _ _ _ _ _)
  refine AW.callVm (g := cf_State_open) (Sg := S_State) (pl := [13, 14, 15, 16, 17, 18, 19, 20, 21, 22, 23, 24, 25, 26, 27, 28, 29, 30, 31, 3, 4, 5, 6]) (av := [zR (some 19)]) (b0 := 0) (ci := 5) (idx := 229) (n := 1) (st := []) (by decide +kernel) (fun l hl r hr => c_State_open l hl  _ r hr) sb_47 rfl cal_State_open rfl (zw4 zm_X8_229 zi_yX5_open zs_yX5_open zn_X5) rfl rfl ⟨by decide, by decide, by decide, by decide⟩ (Nat.le_of_ble_eq_true rfl) (Or.inl rfl) (fun v μ1 => AW.rV (?_ : AW _ _ _ _ 11 _ _ _ _ _ _) v)
  refine AW.iconst (n := 0) (by decide +kernel) (?_ : AW _ _ _ _ 12 _ _ _ _ _ _)
  refine AW.istore_n' (i := 1) (L' := [(1, zI 0), (0, zR (some 0))]) (by decide +kernel) (by decide) rfl (?_ : AW _ _ _ _ 13 _ _ _ _ _ _)
  refine AW.sub (L' := [(0, zR (some 0)), (1, zI 0)]) [1, 0] rfl ?_
  refine l_Ledger_goThroughAnew_13 (fun μ6 => ?_) zN _ _
  exact AW.retv (by decide +kernel) rfl (by decide) (by decide)
theorem c_Ledger_goThroughAnew (l : Launch) (hl : l.stackTraces = false) (μ : ZMem) (r : ZRes) (h : F_Ledger_goThroughAnew μ = some r) : ZC l cf_Ledger_goThroughAnew S_Ledger S_Ledger [zR (some 0)] μ r := ZC.of hl (by decide +kernel) rfl rfl zft_X8_ok (Nat.le_of_ble_eq_true rfl) h (w_Ledger_goThroughAnew μ)
/-! WeirLedger.fund()I -/
def cf_Ledger_fund : ZCf := (yX8_fund, cX8_fund, 2, some .int, [], 13, 1, 6, zft_X8, none)
theorem cal_Ledger_fund : zCallee cf_Ledger_fund 0 := ⟨rfl, zc_yX8_fund, by decide, by decide, by decide +kernel⟩
theorem thr_Ledger_fund_31 : zThr cf_Ledger_fund 31 83 85 zEn "java/lang/IllegalArgumentException" := zThr_of ztw_IllegalArgumentException (by decide +kernel) (by decide +kernel) (by decide +kernel) (by decide +kernel) rfl (by decide)
def F_Ledger_fund (μ : ZMem) : Option ZRes := zCm [1, 2] μ (F_Text_rewind  (zVw [1, 2] μ)) (zkV (fun μ1 => zCm [7, 8, 9, 10, 1, 2] μ1 (F_Fund_readFrom  (zVw [7, 8, 9, 10, 1, 2] μ1)) (zkI (fun x4 μ3 => zLet (zUp μ3 1 1 0) (fun μ5 => if w32 x4 = 0 then (some (.inl "java/lang/IllegalArgumentException", μ5)) else (zCm [3, 4, 5, 6, 7, 8, 9, 10] μ5 (F_Fund_copyFrom  (zVw [3, 4, 5, 6, 7, 8, 9, 10] μ5)) (zkV (fun μ6 => zLet (zUp μ6 11 1 0) (fun μ8 => zC (F_Ledger_goThroughAnew  μ8) (zkV (fun μ9 => some (.inr (some (zI (μ9 3 3))), μ9))) zX0))) zX0)))) zX0)) zX0
set_option maxRecDepth 100000 in
theorem w_Ledger_fund (μ : ZMem) : AW cf_Ledger_fund S_Ledger.length S_Ledger S_Ledger 0 [(0, zR (some 0))] [] μ 0 0 (F_Ledger_fund μ) := by
  unfold F_Ledger_fund
  refine AW.aload_n (i := 0) (a := 0) (by decide +kernel) rfl (?_ : AW _ _ _ _ 1 _ _ _ _ _ _)
  refine AW.getR (idx := 10) (ci := 8) (k := 0) (r := 0) (by decide +kernel) rfl rfl rfl (?_ : AW _ _ _ _ 4 _ _ _ _ _ _)
  refine AW.callVm (g := cf_Text_rewind) (Sg := S_Text) (pl := [1, 2]) (av := []) (b0 := 0) (ci := 6) (idx := 76) (n := 0) (st := []) (by decide +kernel) (fun l hl r hr => c_Text_rewind l hl  _ r hr) sb_44 rfl cal_Text_rewind rfl (zw4 zm_X8_76 zi_yX6_rewind zs_yX6_rewind zn_X6) rfl rfl ⟨by decide, by decide, by decide, by decide⟩ (Nat.le_of_ble_eq_true rfl) (Or.inl rfl) (fun v μ1 => AW.rV (?_ : AW _ _ _ _ 7 _ _ _ _ _ _) v)
  refine AW.aload_n (i := 0) (a := 0) (by decide +kernel) rfl (?_ : AW _ _ _ _ 8 _ _ _ _ _ _)
  refine AW.getR (idx := 23) (ci := 8) (k := 2) (r := 0) (by decide +kernel) rfl rfl rfl (?_ : AW _ _ _ _ 11 _ _ _ _ _ _)
  refine AW.aload_n (i := 0) (a := 0) (by decide +kernel) rfl (?_ : AW _ _ _ _ 12 _ _ _ _ _ _)
  refine AW.getR (idx := 10) (ci := 8) (k := 0) (r := 0) (by decide +kernel) rfl rfl rfl (?_ : AW _ _ _ _ 15 _ _ _ _ _ _)
  refine AW.callVm (g := cf_Fund_readFrom) (Sg := S_Fund3) (pl := [7, 8, 9, 10, 1, 2]) (av := [zR (some 4)]) (b0 := 0) (ci := 1) (idx := 79) (n := 1) (st := []) (by decide +kernel) (fun l hl r hr => c_Fund_readFrom l hl  _ r hr) sb_45 rfl cal_Fund_readFrom rfl (zw4 zm_X8_79 zi_yX1_readFrom zs_yX1_readFrom zn_X1) rfl rfl ⟨by decide, by decide, by decide, by decide⟩ (Nat.le_of_ble_eq_true rfl) (Or.inl rfl) (fun v μ3 => AW.rI (fun x4 => (?_ : AW _ _ _ _ 18 _ _ _ _ _ _)) v)
  refine AW.istore_n' (i := 1) (L' := [(1, zI x4), (0, zR (some 0))]) (by decide +kernel) (by decide) rfl (?_ : AW _ _ _ _ 19 _ _ _ _ _ _)
  refine AW.aload_n (i := 0) (a := 0) (by decide +kernel) rfl (?_ : AW _ _ _ _ 20 _ _ _ _ _ _)
  refine AW.getR (idx := 10) (ci := 8) (k := 0) (r := 0) (by decide +kernel) rfl rfl rfl (?_ : AW _ _ _ _ 23 _ _ _ _ _ _)
  refine AW.iconst (n := 0) (by decide +kernel) (?_ : AW _ _ _ _ 24 _ _ _ _ _ _)
  refine AW.putiL (idx := 68) (ci := 6) (k := 1) (r := 1) (by decide +kernel) rfl rfl rfl (fun μ5 => (?_ : AW _ _ _ _ 27 _ _ _ _ _ _))
  refine AW.iload_n (i := 1) (a := x4) (by decide +kernel) rfl (?_ : AW _ _ _ _ 28 _ _ _ _ _ _)
  refine AW.if_ne (off := 11) (tgt := 39) (by decide +kernel) (by decide) (fun _ => ?_) (fun _ => ?_)
  · exact AW.throw thr_Ledger_fund_31 (by decide) (by decide) (by decide)
  · refine AW.aload_n (i := 0) (a := 0) (by decide +kernel) rfl (?_ : AW _ _ _ _ 40 _ _ _ _ _ _)
    refine AW.getR (idx := 19) (ci := 8) (k := 1) (r := 0) (by decide +kernel) rfl rfl rfl (?_ : AW _ _ _ _ 43 _ _ _ _ _ _)
    refine AW.aload_n (i := 0) (a := 0) (by decide +kernel) rfl (?_ : AW _ _ _ _ 44 _ _ _ _ _ _)
    refine AW.getR (idx := 23) (ci := 8) (k := 2) (r := 0) (by decide +kernel) rfl rfl rfl (?_ : AW _ _ _ _ 47 _ _ _ _ _ _)
    refine AW.callVm (g := cf_Fund_copyFrom) (Sg := S_Fund2) (pl := [3, 4, 5, 6, 7, 8, 9, 10]) (av := [zR (some 4)]) (b0 := 0) (ci := 1) (idx := 86) (n := 1) (st := []) (by decide +kernel) (fun l hl r hr => c_Fund_copyFrom l hl  _ r hr) sb_46 rfl cal_Fund_copyFrom rfl (zw4 zm_X8_86 zi_yX1_copyFrom zs_yX1_copyFrom zn_X1) rfl rfl ⟨by decide, by decide, by decide, by decide⟩ (Nat.le_of_ble_eq_true rfl) (Or.inl rfl) (fun v μ6 => AW.rV (?_ : AW _ _ _ _ 50 _ _ _ _ _ _) v)
    refine AW.aload_n (i := 0) (a := 0) (by decide +kernel) rfl (?_ : AW _ _ _ _ 51 _ _ _ _ _ _)
    refine AW.getR (idx := 29) (ci := 8) (k := 3) (r := 0) (by decide +kernel) rfl rfl rfl (?_ : AW _ _ _ _ 54 _ _ _ _ _ _)
    refine AW.iconst (n := 0) (by decide +kernel) (?_ : AW _ _ _ _ 55 _ _ _ _ _ _)
    refine AW.putiL (idx := 90) (ci := 2) (k := 1) (r := 11) (by decide +kernel) rfl rfl rfl (fun μ8 => (?_ : AW _ _ _ _ 58 _ _ _ _ _ _))
    refine AW.aload_n (i := 0) (a := 0) (by decide +kernel) rfl (?_ : AW _ _ _ _ 59 _ _ _ _ _ _)
    refine AW.callVw (g := cf_Ledger_goThroughAnew) (av := []) (b0 := 0) (ci := 8) (idx := 93) (n := 0) (st := []) (by decide +kernel) (fun l hl r hr => c_Ledger_goThroughAnew l hl  _ r hr) S_Ledger_wf rfl cal_Ledger_goThroughAnew rfl (zw4 zm_X8_93 zi_yX8_goThroughAnew zs_yX8_goThroughAnew zn_X8) rfl rfl ⟨by decide, by decide, by decide, by decide⟩ (Nat.le_of_ble_eq_true rfl) (Or.inl rfl) (fun v μ9 => AW.kV (?_ : AW _ _ _ _ 62 _ _ _ _ _ _) v)
    refine AW.aload_n (i := 0) (a := 0) (by decide +kernel) rfl (?_ : AW _ _ _ _ 63 _ _ _ _ _ _)
    refine AW.getR (idx := 19) (ci := 8) (k := 1) (r := 0) (by decide +kernel) rfl rfl rfl (?_ : AW _ _ _ _ 66 _ _ _ _ _ _)
    refine AW.getI (idx := 96) (ci := 1) (k := 3) (r := 3) (by decide +kernel) rfl rfl rfl (?_ : AW _ _ _ _ 69 _ _ _ _ _ _)
    exact AW.reti (by decide +kernel) rfl (by decide) (by decide)
theorem c_Ledger_fund (l : Launch) (hl : l.stackTraces = false) (μ : ZMem) (r : ZRes) (h : F_Ledger_fund μ = some r) : ZC l cf_Ledger_fund S_Ledger S_Ledger [zR (some 0)] μ r := ZC.of hl (by decide +kernel) rfl rfl zft_X8_ok (Nat.le_of_ble_eq_true rfl) h (w_Ledger_fund μ)
theorem sb_49 : zSub S_Ledger [13, 14, 15, 16, 17, 18, 19, 20, 21, 22, 23, 24, 25, 26, 27, 28, 29, 30, 31] S_State2 := ⟨rfl, by decide +kernel, by decide +kernel, rfl⟩
theorem sb_50 : zSub S_Ledger [11, 12] S_Journal2 := ⟨rfl, by decide +kernel, by decide +kernel, rfl⟩
/-! WeirLedger.doAndWrite(IIII)J -/
def cf_Ledger_doAndWrite : ZCf := (yX8_doAndWrite, cX8_doAndWrite, 8, some .long, [], 6, 0, 0, zft_X8, none)
theorem cal_Ledger_doAndWrite : zCallee cf_Ledger_doAndWrite 4 := ⟨rfl, zc_yX8_doAndWrite, by decide, by decide, by decide +kernel⟩
def F_Ledger_doAndWrite (a1 : Int) (a2 : Int) (a3 : Int) (a4 : Int) (μ : ZMem) : Option ZRes := zLet ((μ 14 6)) (fun x1 => zCm [13, 14, 15, 16, 17, 18, 19, 20, 21, 22, 23, 24, 25, 26, 27, 28, 29, 30, 31] μ (F_State_perform a1 a2 a3 a4 (zVw [13, 14, 15, 16, 17, 18, 19, 20, 21, 22, 23, 24, 25, 26, 27, 28, 29, 30, 31] μ)) (zkJ (fun x3 μ2 => zCm [11, 12] μ2 (F_Journal_write a1 a2 a3 x1 a4 (zVw [11, 12] μ2)) (zkV (fun μ4 => zCm [11, 12] μ4 (F_Journal_writeComing (μ4 13 4) (μ4 13 5) (zVw [11, 12] μ4)) (zkV (fun μ6 => some (.inr (some (zJ x3)), μ6))) zX0)) zX0)) zX0)
set_option maxRecDepth 100000 in
theorem w_Ledger_doAndWrite (a1 : Int) (a2 : Int) (a3 : Int) (a4 : Int) (μ : ZMem) : AW cf_Ledger_doAndWrite S_Ledger.length S_Ledger S_Ledger 0 [(0, zR (some 0)), (1, zI a1), (2, zI a2), (3, zI a3), (4, zI a4)] [] μ 0 0 (F_Ledger_doAndWrite a1 a2 a3 a4 μ) := by
  unfold F_Ledger_doAndWrite
  refine AW.aload_n (i := 0) (a := 0) (by decide +kernel) rfl (?_ : AW _ _ _ _ 1 _ _ _ _ _ _)
  refine AW.getR (idx := 38) (ci := 8) (k := 4) (r := 0) (by decide +kernel) rfl rfl rfl (?_ : AW _ _ _ _ 4 _ _ _ _ _ _)
  refine AW.getR (idx := 152) (ci := 5) (k := 0) (r := 13) (by decide +kernel) rfl rfl rfl (?_ : AW _ _ _ _ 7 _ _ _ _ _ _)
  refine AW.getI (idx := 244) (ci := 0) (k := 6) (r := 14) (by decide +kernel) rfl rfl rfl (?_ : AW _ _ _ _ 10 _ _ _ _ _ _)
  refine AW.istoreL (i := 5) (L' := fun x1 => [(5, zI x1), (0, zR (some 0)), (1, zI a1), (2, zI a2), (3, zI a3), (4, zI a4)]) (by decide +kernel) (by decide) (fun _ => rfl) (fun x1 => (?_ : AW _ _ _ _ 12 _ _ _ _ _ _))
  refine AW.aload_n (i := 0) (a := 0) (by decide +kernel) rfl (?_ : AW _ _ _ _ 13 _ _ _ _ _ _)
  refine AW.getR (idx := 38) (ci := 8) (k := 4) (r := 0) (by decide +kernel) rfl rfl rfl (?_ : AW _ _ _ _ 16 _ _ _ _ _ _)
  refine AW.iload_n (i := 1) (a := a1) (by decide +kernel) rfl (?_ : AW _ _ _ _ 17 _ _ _ _ _ _)
  refine AW.iload_n (i := 2) (a := a2) (by decide +kernel) rfl (?_ : AW _ _ _ _ 18 _ _ _ _ _ _)
  refine AW.iload_n (i := 3) (a := a3) (by decide +kernel) rfl (?_ : AW _ _ _ _ 19 _ _ _ _ _ _)
  refine AW.iload (i := 4) (a := a4) (by decide +kernel) rfl (?_ : AW _ _ _ _ 21 _ _ _ _ _ _)
  refine AW.callVm (g := cf_State_perform) (Sg := S_State2) (pl := [13, 14, 15, 16, 17, 18, 19, 20, 21, 22, 23, 24, 25, 26, 27, 28, 29, 30, 31]) (av := [zI a1, zI a2, zI a3, zI a4]) (b0 := 0) (ci := 5) (idx := 323) (n := 4) (st := []) (by decide +kernel) (fun l hl r hr => c_State_perform l hl a1 a2 a3 a4 _ r hr) sb_49 rfl cal_State_perform rfl (zw4 zm_X8_323 zi_yX5_perform zs_yX5_perform zn_X5) rfl rfl ⟨by decide, by decide, by decide, by decide⟩ (Nat.le_of_ble_eq_true rfl) (Or.inl rfl) (fun v μ2 => AW.rJ (fun x3 => (?_ : AW _ _ _ _ 24 _ _ _ _ _ _)) v)
  refine AW.lstore' (i := 6) (L' := [(6, zJ x3), (5, zI x1), (0, zR (some 0)), (1, zI a1), (2, zI a2), (3, zI a3), (4, zI a4)]) (by decide +kernel) (by decide) rfl (?_ : AW _ _ _ _ 26 _ _ _ _ _ _)
  refine AW.aload_n (i := 0) (a := 0) (by decide +kernel) rfl (?_ : AW _ _ _ _ 27 _ _ _ _ _ _)
  refine AW.getR (idx := 29) (ci := 8) (k := 3) (r := 0) (by decide +kernel) rfl rfl rfl (?_ : AW _ _ _ _ 30 _ _ _ _ _ _)
  refine AW.iload_n (i := 1) (a := a1) (by decide +kernel) rfl (?_ : AW _ _ _ _ 31 _ _ _ _ _ _)
  refine AW.iload_n (i := 2) (a := a2) (by decide +kernel) rfl (?_ : AW _ _ _ _ 32 _ _ _ _ _ _)
  refine AW.iload_n (i := 3) (a := a3) (by decide +kernel) rfl (?_ : AW _ _ _ _ 33 _ _ _ _ _ _)
  refine AW.iload (i := 5) (a := x1) (by decide +kernel) rfl (?_ : AW _ _ _ _ 35 _ _ _ _ _ _)
  refine AW.iload (i := 4) (a := a4) (by decide +kernel) rfl (?_ : AW _ _ _ _ 37 _ _ _ _ _ _)
  refine AW.callVm (g := cf_Journal_write) (Sg := S_Journal2) (pl := [11, 12]) (av := [zI a1, zI a2, zI a3, zI x1, zI a4]) (b0 := 0) (ci := 2) (idx := 326) (n := 5) (st := []) (by decide +kernel) (fun l hl r hr => c_Journal_write l hl a1 a2 a3 x1 a4 _ r hr) sb_50 rfl cal_Journal_write rfl (zw4 zm_X8_326 zi_yX2_write zs_yX2_write zn_X2) rfl rfl ⟨by decide, by decide, by decide, by decide⟩ (Nat.le_of_ble_eq_true rfl) (Or.inl rfl) (fun v μ4 => AW.rV (?_ : AW _ _ _ _ 40 _ _ _ _ _ _) v)
  refine AW.aload_n (i := 0) (a := 0) (by decide +kernel) rfl (?_ : AW _ _ _ _ 41 _ _ _ _ _ _)
  refine AW.getR (idx := 29) (ci := 8) (k := 3) (r := 0) (by decide +kernel) rfl rfl rfl (?_ : AW _ _ _ _ 44 _ _ _ _ _ _)
  refine AW.aload_n (i := 0) (a := 0) (by decide +kernel) rfl (?_ : AW _ _ _ _ 45 _ _ _ _ _ _)
  refine AW.getR (idx := 38) (ci := 8) (k := 4) (r := 0) (by decide +kernel) rfl rfl rfl (?_ : AW _ _ _ _ 48 _ _ _ _ _ _)
  refine AW.getJ (idx := 330) (ci := 5) (k := 4) (r := 13) (by decide +kernel) rfl rfl rfl (?_ : AW _ _ _ _ 51 _ _ _ _ _ _)
  refine AW.l2i (by decide +kernel) (?_ : AW _ _ _ _ 52 _ _ _ _ _ _)
  refine AW.aload_n (i := 0) (a := 0) (by decide +kernel) rfl (?_ : AW _ _ _ _ 53 _ _ _ _ _ _)
  refine AW.getR (idx := 38) (ci := 8) (k := 4) (r := 0) (by decide +kernel) rfl rfl rfl (?_ : AW _ _ _ _ 56 _ _ _ _ _ _)
  refine AW.getJ (idx := 333) (ci := 5) (k := 5) (r := 13) (by decide +kernel) rfl rfl rfl (?_ : AW _ _ _ _ 59 _ _ _ _ _ _)
  refine AW.l2i (by decide +kernel) (?_ : AW _ _ _ _ 60 _ _ _ _ _ _)
  refine AW.callVm (g := cf_Journal_writeComing) (Sg := S_Journal2) (pl := [11, 12]) (av := [zI (μ4 13 4), zI (μ4 13 5)]) (b0 := 0) (ci := 2) (idx := 336) (n := 2) (st := []) (by decide +kernel) (fun l hl r hr => c_Journal_writeComing l hl (μ4 13 4) (μ4 13 5) _ r hr) sb_50 rfl cal_Journal_writeComing rfl (zw4 zm_X8_336 zi_yX2_writeComing zs_yX2_writeComing zn_X2) rfl rfl ⟨by decide, by decide, by decide, by decide⟩ (Nat.le_of_ble_eq_true rfl) (Or.inl rfl) (fun v μ6 => AW.rV (?_ : AW _ _ _ _ 63 _ _ _ _ _ _) v)
  refine AW.lload (i := 6) (a := x3) (by decide +kernel) rfl (?_ : AW _ _ _ _ 65 _ _ _ _ _ _)
  exact AW.retl (by decide +kernel) rfl (by decide) (by decide)
theorem c_Ledger_doAndWrite (l : Launch) (hl : l.stackTraces = false) (a1 : Int) (a2 : Int) (a3 : Int) (a4 : Int) (μ : ZMem) (r : ZRes) (h : F_Ledger_doAndWrite a1 a2 a3 a4 μ = some r) : ZC l cf_Ledger_doAndWrite S_Ledger S_Ledger [zR (some 0), zI a1, zI a2, zI a3, zI a4] μ r := ZC.of hl (by decide +kernel) rfl rfl zft_X8_ok (Nat.le_of_ble_eq_true rfl) h (w_Ledger_doAndWrite a1 a2 a3 a4 μ)
/-! WeirLedger.readAct()Z -/
def cf_Ledger_readAct : ZCf := (yX8_readAct, cX8_readAct, 7, some .boolean, [], 12, 0, 0, zft_X8, none)
theorem cal_Ledger_readAct : zCallee cf_Ledger_readAct 0 := ⟨rfl, zc_yX8_readAct, by decide, by decide, by decide +kernel⟩
def J_Ledger_readAct_256 (u1 : Int) (μ : ZMem) : Option ZRes := zCm [1, 2] μ (F_Text_refuse u1 (zVw [1, 2] μ)) (zkI (fun x18 μ17 => if x18 = 0 ∨ x18 = 1 then some (.inr (some (zI x18)), μ17) else none)) zX0
set_option maxRecDepth 100000 in
theorem j_Ledger_readAct_256 (u1 : Int) (μ : ZMem) : AW cf_Ledger_readAct S_Ledger.length S_Ledger S_Ledger 256 [(0, zR (some 0)), (1, zI u1)] [] μ 0 0 (J_Ledger_readAct_256 u1 μ) := by
  unfold J_Ledger_readAct_256
  refine AW.aload_n (i := 0) (a := 0) (by decide +kernel) rfl (?_ : AW _ _ _ _ 257 _ _ _ _ _ _)
  refine AW.getR (idx := 10) (ci := 8) (k := 0) (r := 0) (by decide +kernel) rfl rfl rfl (?_ : AW _ _ _ _ 260 _ _ _ _ _ _)
  refine AW.iload_n (i := 1) (a := u1) (by decide +kernel) rfl (?_ : AW _ _ _ _ 261 _ _ _ _ _ _)
  refine AW.callVm (g := cf_Text_refuse) (Sg := S_Text) (pl := [1, 2]) (av := [zI u1]) (b0 := 0) (ci := 6) (idx := 366) (n := 1) (st := []) (by decide +kernel) (fun l hl r hr => c_Text_refuse l hl u1 _ r hr) sb_44 rfl cal_Text_refuse rfl (zw4 zm_X8_366 zi_yX6_refuse zs_yX6_refuse zn_X6) rfl rfl ⟨by decide, by decide, by decide, by decide⟩ (Nat.le_of_ble_eq_true rfl) (Or.inl rfl) (fun v μ17 => AW.rI (fun x18 => (?_ : AW _ _ _ _ 264 _ _ _ _ _ _)) v)
  exact AW.retb (by decide +kernel) rfl (by decide) (by decide)
def J_Ledger_readAct_228 (u1 : Int) (u2 : Int) (u3 : Int) (u4 : Int) (u5 : Int) (μ : ZMem) : Option ZRes := if w32 60 ≤ w32 (μ 11 1) then (J_Ledger_readAct_256 u1 μ) else (zCm [13, 14, 15, 16, 17, 18, 19, 20, 21, 22, 23, 24, 25, 26, 27, 28, 29, 30, 31] μ (F_State_canBe u2 u3 u5 u4 (zVw [13, 14, 15, 16, 17, 18, 19, 20, 21, 22, 23, 24, 25, 26, 27, 28, 29, 30, 31] μ)) (zkI (fun x20 μ19 => if w32 x20 = 0 then (J_Ledger_readAct_256 u1 μ19) else (zC (F_Ledger_doAndWrite u2 u3 u5 u4 μ19) (zkJ (fun x22 μ21 => some (.inr (some (zI 1)), μ21))) zX0))) zX0)
set_option maxRecDepth 100000 in
theorem j_Ledger_readAct_228 (u1 : Int) (u2 : Int) (u3 : Int) (u4 : Int) (u5 : Int) (μ : ZMem) : AW cf_Ledger_readAct S_Ledger.length S_Ledger S_Ledger 228 [(0, zR (some 0)), (1, zI u1), (2, zI u2), (3, zI u3), (4, zI u4), (5, zI u5)] [] μ 0 0 (J_Ledger_readAct_228 u1 u2 u3 u4 u5 μ) := by
  unfold J_Ledger_readAct_228
  refine AW.aload_n (i := 0) (a := 0) (by decide +kernel) rfl (?_ : AW _ _ _ _ 229 _ _ _ _ _ _)
  refine AW.getR (idx := 29) (ci := 8) (k := 3) (r := 0) (by decide +kernel) rfl rfl rfl (?_ : AW _ _ _ _ 232 _ _ _ _ _ _)
  refine AW.getI (idx := 90) (ci := 2) (k := 1) (r := 11) (by decide +kernel) rfl rfl rfl (?_ : AW _ _ _ _ 235 _ _ _ _ _ _)
  refine AW.bipush (n := 60) (by decide +kernel) (by decide +kernel) (?_ : AW _ _ _ _ 237 _ _ _ _ _ _)
  refine AW.icmp_ge (off := 19) (tgt := 256) (by decide +kernel) (by decide) (fun _ => ?_) (fun _ => ?_)
  · refine AW.sub (L' := [(0, zR (some 0)), (1, zI u1)]) [0, 1] rfl ?_
    exact j_Ledger_readAct_256 u1 μ
  · refine AW.aload_n (i := 0) (a := 0) (by decide +kernel) rfl (?_ : AW _ _ _ _ 241 _ _ _ _ _ _)
    refine AW.getR (idx := 38) (ci := 8) (k := 4) (r := 0) (by decide +kernel) rfl rfl rfl (?_ : AW _ _ _ _ 244 _ _ _ _ _ _)
    refine AW.iload_n (i := 2) (a := u2) (by decide +kernel) rfl (?_ : AW _ _ _ _ 245 _ _ _ _ _ _)
    refine AW.iload_n (i := 3) (a := u3) (by decide +kernel) rfl (?_ : AW _ _ _ _ 246 _ _ _ _ _ _)
    refine AW.iload (i := 5) (a := u5) (by decide +kernel) rfl (?_ : AW _ _ _ _ 248 _ _ _ _ _ _)
    refine AW.iload (i := 4) (a := u4) (by decide +kernel) rfl (?_ : AW _ _ _ _ 250 _ _ _ _ _ _)
    refine AW.callVm (g := cf_State_canBe) (Sg := S_State2) (pl := [13, 14, 15, 16, 17, 18, 19, 20, 21, 22, 23, 24, 25, 26, 27, 28, 29, 30, 31]) (av := [zI u2, zI u3, zI u5, zI u4]) (b0 := 0) (ci := 5) (idx := 313) (n := 4) (st := []) (by decide +kernel) (fun l hl r hr => c_State_canBe l hl u2 u3 u5 u4 _ r hr) sb_49 rfl cal_State_canBe rfl (zw4 zm_X8_313 zi_yX5_canBe zs_yX5_canBe zn_X5) rfl rfl ⟨by decide, by decide, by decide, by decide⟩ (Nat.le_of_ble_eq_true rfl) (Or.inl rfl) (fun v μ19 => AW.rI (fun x20 => (?_ : AW _ _ _ _ 253 _ _ _ _ _ _)) v)
    refine AW.if_ne (off := 12) (tgt := 265) (by decide +kernel) (by decide) (fun _ => ?_) (fun _ => ?_)
    · refine AW.sub (L' := [(0, zR (some 0)), (1, zI u1)]) [0, 1] rfl ?_
      exact j_Ledger_readAct_256 u1 μ19
    · refine AW.aload_n (i := 0) (a := 0) (by decide +kernel) rfl (?_ : AW _ _ _ _ 266 _ _ _ _ _ _)
      refine AW.iload_n (i := 2) (a := u2) (by decide +kernel) rfl (?_ : AW _ _ _ _ 267 _ _ _ _ _ _)
      refine AW.iload_n (i := 3) (a := u3) (by decide +kernel) rfl (?_ : AW _ _ _ _ 268 _ _ _ _ _ _)
      refine AW.iload (i := 5) (a := u5) (by decide +kernel) rfl (?_ : AW _ _ _ _ 270 _ _ _ _ _ _)
      refine AW.iload (i := 4) (a := u4) (by decide +kernel) rfl (?_ : AW _ _ _ _ 272 _ _ _ _ _ _)
      refine AW.callVw (g := cf_Ledger_doAndWrite) (av := [zI u2, zI u3, zI u5, zI u4]) (b0 := 0) (ci := 8) (idx := 320) (n := 4) (st := []) (by decide +kernel) (fun l hl r hr => c_Ledger_doAndWrite l hl u2 u3 u5 u4 _ r hr) S_Ledger_wf rfl cal_Ledger_doAndWrite rfl (zw4 zm_X8_320 zi_yX8_doAndWrite zs_yX8_doAndWrite zn_X8) rfl rfl ⟨by decide, by decide, by decide, by decide⟩ (Nat.le_of_ble_eq_true rfl) (Or.inl rfl) (fun v μ21 => AW.kJ (fun x22 => (?_ : AW _ _ _ _ 275 _ _ _ _ _ _)) v)
      refine AW.pop2 (by decide +kernel) rfl (?_ : AW _ _ _ _ 276 _ _ _ _ _ _)
      refine AW.iconst (n := 1) (by decide +kernel) (?_ : AW _ _ _ _ 277 _ _ _ _ _ _)
      exact AW.retb1 (by decide +kernel) rfl (by decide) (by decide) (by decide)
def J_Ledger_readAct_196 (u1 : Int) (u2 : Int) (u3 : Int) (u4 : Int) (u5 : Int) (μ : ZMem) : Option ZRes := zCm [1, 2] μ (F_Text_isRight  (zVw [1, 2] μ)) (zkI (fun x14 μ13 => if w32 x14 = 0 then (some (.inr (some (zI 0)), μ13)) else (if w32 u2 = w32 1 then (zCm [1, 2] μ13 (F_Text_takeWord 18 (zVw [1, 2] μ13)) (zkI (fun x16 μ15 => if w32 x16 = 0 then (J_Ledger_readAct_228 u1 u2 u3 u4 u5 μ15) else (J_Ledger_readAct_228 u1 2 u3 u4 u5 μ15))) zX0) else (J_Ledger_readAct_228 u1 u2 u3 u4 u5 μ13)))) zX0
set_option maxRecDepth 100000 in
theorem j_Ledger_readAct_196 (u1 : Int) (u2 : Int) (u3 : Int) (u4 : Int) (u5 : Int) (μ : ZMem) : AW cf_Ledger_readAct S_Ledger.length S_Ledger S_Ledger 196 [(0, zR (some 0)), (1, zI u1), (2, zI u2), (3, zI u3), (4, zI u4), (5, zI u5)] [] μ 0 0 (J_Ledger_readAct_196 u1 u2 u3 u4 u5 μ) := by
  unfold J_Ledger_readAct_196
  refine AW.aload_n (i := 0) (a := 0) (by decide +kernel) rfl (?_ : AW _ _ _ _ 197 _ _ _ _ _ _)
  refine AW.getR (idx := 10) (ci := 8) (k := 0) (r := 0) (by decide +kernel) rfl rfl rfl (?_ : AW _ _ _ _ 200 _ _ _ _ _ _)
  refine AW.callVm (g := cf_Text_isRight) (Sg := S_Text) (pl := [1, 2]) (av := []) (b0 := 0) (ci := 6) (idx := 372) (n := 0) (st := []) (by decide +kernel) (fun l hl r hr => c_Text_isRight l hl  _ r hr) sb_44 rfl cal_Text_isRight rfl (zw4 zm_X8_372 zi_yX6_isRight zs_yX6_isRight zn_X6) rfl rfl ⟨by decide, by decide, by decide, by decide⟩ (Nat.le_of_ble_eq_true rfl) (Or.inl rfl) (fun v μ13 => AW.rI (fun x14 => (?_ : AW _ _ _ _ 203 _ _ _ _ _ _)) v)
  refine AW.if_ne (off := 5) (tgt := 208) (by decide +kernel) (by decide) (fun _ => ?_) (fun _ => ?_)
  · refine AW.iconst (n := 0) (by decide +kernel) (?_ : AW _ _ _ _ 207 _ _ _ _ _ _)
    exact AW.retb1 (by decide +kernel) rfl (by decide) (by decide) (by decide)
  · refine AW.iload_n (i := 2) (a := u2) (by decide +kernel) rfl (?_ : AW _ _ _ _ 209 _ _ _ _ _ _)
    refine AW.iconst (n := 1) (by decide +kernel) (?_ : AW _ _ _ _ 210 _ _ _ _ _ _)
    refine AW.icmp_ne (off := 18) (tgt := 228) (by decide +kernel) (by decide) (fun _ => ?_) (fun _ => ?_)
    · refine AW.aload_n (i := 0) (a := 0) (by decide +kernel) rfl (?_ : AW _ _ _ _ 214 _ _ _ _ _ _)
      refine AW.getR (idx := 10) (ci := 8) (k := 0) (r := 0) (by decide +kernel) rfl rfl rfl (?_ : AW _ _ _ _ 217 _ _ _ _ _ _)
      refine AW.ldcws (idx := 378) (tx := "last") (j := 18) (q := 1000018) (by decide +kernel) (by decide +kernel) rfl (?_ : AW _ _ _ _ 220 _ _ _ _ _ _)
      refine AW.callVm (g := cf_Text_takeWord) (Sg := S_Text) (pl := [1, 2]) (av := [zR (some (zSB + 18))]) (b0 := 0) (ci := 6) (idx := 380) (n := 1) (st := []) (by decide +kernel) (fun l hl r hr => c_Text_takeWord l hl 18 _ r hr) sb_44 rfl cal_Text_takeWord rfl (zw4 zm_X8_380 zi_yX6_takeWord zs_yX6_takeWord zn_X6) rfl rfl ⟨by decide, by decide, by decide, by decide⟩ (Nat.le_of_ble_eq_true rfl) (Or.inl rfl) (fun v μ15 => AW.rI (fun x16 => (?_ : AW _ _ _ _ 223 _ _ _ _ _ _)) v)
      refine AW.if_eq (off := 5) (tgt := 228) (by decide +kernel) (by decide) (fun _ => ?_) (fun _ => ?_)
      · exact j_Ledger_readAct_228 u1 u2 u3 u4 u5 μ15
      · refine AW.iconst (n := 2) (by decide +kernel) (?_ : AW _ _ _ _ 227 _ _ _ _ _ _)
        refine AW.istore_n' (i := 2) (L' := [(2, zI 2), (0, zR (some 0)), (1, zI u1), (3, zI u3), (4, zI u4), (5, zI u5)]) (by decide +kernel) (by decide) rfl (?_ : AW _ _ _ _ 228 _ _ _ _ _ _)
        refine AW.sub (L' := [(0, zR (some 0)), (1, zI u1), (2, zI 2), (3, zI u3), (4, zI u4), (5, zI u5)]) [1, 2, 0, 3, 4, 5] rfl ?_
        exact j_Ledger_readAct_228 u1 2 u3 u4 u5 μ15
    · exact j_Ledger_readAct_228 u1 u2 u3 u4 u5 μ13
def J_Ledger_readAct_191 (u1 : Int) (u2 : Int) (u3 : Int) (u4 : Int) (y0 : Int) (y1 : Int) (μ : ZMem) : Option ZRes := zCm [1, 2] μ (F_Text_takeNumber y1 y0 (zVw [1, 2] μ)) (zkI (fun x24 μ23 => J_Ledger_readAct_196 u1 u2 u3 u4 x24 μ23)) zX0
set_option maxRecDepth 100000 in
theorem j_Ledger_readAct_191 (u1 : Int) (u2 : Int) (u3 : Int) (u4 : Int) (y0 : Int) (y1 : Int) (μ : ZMem) : AW cf_Ledger_readAct S_Ledger.length S_Ledger S_Ledger 191 [(0, zR (some 0)), (1, zI u1), (2, zI u2), (3, zI u3), (4, zI u4)] [zI y0, zI y1, zR (some 1)] μ 0 0 (J_Ledger_readAct_191 u1 u2 u3 u4 y0 y1 μ) := by
  unfold J_Ledger_readAct_191
  refine AW.callVm (g := cf_Text_takeNumber) (Sg := S_Text) (pl := [1, 2]) (av := [zI y1, zI y0]) (b0 := 0) (ci := 6) (idx := 369) (n := 2) (st := []) (by decide +kernel) (fun l hl r hr => c_Text_takeNumber l hl y1 y0 _ r hr) sb_44 rfl cal_Text_takeNumber rfl (zw4 zm_X8_369 zi_yX6_takeNumber zs_yX6_takeNumber zn_X6) rfl rfl ⟨by decide, by decide, by decide, by decide⟩ (Nat.le_of_ble_eq_true rfl) (Or.inl rfl) (fun v μ23 => AW.rI (fun x24 => (?_ : AW _ _ _ _ 194 _ _ _ _ _ _)) v)
  refine AW.istore' (i := 5) (L' := [(5, zI x24), (0, zR (some 0)), (1, zI u1), (2, zI u2), (3, zI u3), (4, zI u4)]) (by decide +kernel) (by decide) rfl (?_ : AW _ _ _ _ 196 _ _ _ _ _ _)
  refine AW.sub (L' := [(0, zR (some 0)), (1, zI u1), (2, zI u2), (3, zI u3), (4, zI u4), (5, zI x24)]) [1, 2, 3, 4, 5, 0] rfl ?_
  exact j_Ledger_readAct_196 u1 u2 u3 u4 x24 μ23
def J_Ledger_readAct_170 (u1 : Int) (u2 : Int) (u3 : Int) (u4 : Int) (y0 : Int) (μ : ZMem) : Option ZRes := if w32 u2 = w32 4 then (J_Ledger_readAct_191 u1 u2 u3 u4 60 y0 μ) else (J_Ledger_readAct_191 u1 u2 u3 u4 9999 y0 μ)
set_option maxRecDepth 100000 in
theorem j_Ledger_readAct_170 (u1 : Int) (u2 : Int) (u3 : Int) (u4 : Int) (y0 : Int) (μ : ZMem) : AW cf_Ledger_readAct S_Ledger.length S_Ledger S_Ledger 170 [(0, zR (some 0)), (1, zI u1), (2, zI u2), (3, zI u3), (4, zI u4)] [zI y0] μ 0 0 (J_Ledger_readAct_170 u1 u2 u3 u4 y0 μ) := by
  unfold J_Ledger_readAct_170
  refine AW.istore' (i := 6) (L' := [(6, zI y0), (0, zR (some 0)), (1, zI u1), (2, zI u2), (3, zI u3), (4, zI u4)]) (by decide +kernel) (by decide) rfl (?_ : AW _ _ _ _ 172 _ _ _ _ _ _)
  refine AW.aload_n (i := 0) (a := 0) (by decide +kernel) rfl (?_ : AW _ _ _ _ 173 _ _ _ _ _ _)
  refine AW.getR (idx := 10) (ci := 8) (k := 0) (r := 0) (by decide +kernel) rfl rfl rfl (?_ : AW _ _ _ _ 176 _ _ _ _ _ _)
  refine AW.iload (i := 6) (a := y0) (by decide +kernel) rfl (?_ : AW _ _ _ _ 178 _ _ _ _ _ _)
  refine AW.iload_n (i := 2) (a := u2) (by decide +kernel) rfl (?_ : AW _ _ _ _ 179 _ _ _ _ _ _)
  refine AW.iconst (n := 4) (by decide +kernel) (?_ : AW _ _ _ _ 180 _ _ _ _ _ _)
  refine AW.icmp_ne (off := 8) (tgt := 188) (by decide +kernel) (by decide) (fun _ => ?_) (fun _ => ?_)
  · refine AW.bipush (n := 60) (by decide +kernel) (by decide +kernel) (?_ : AW _ _ _ _ 185 _ _ _ _ _ _)
    refine AW.goto (off := 6) (tgt := 191) (by decide +kernel) (by decide) ?_
    refine AW.sub (L' := [(0, zR (some 0)), (1, zI u1), (2, zI u2), (3, zI u3), (4, zI u4)]) [1, 2, 3, 4, 5] rfl ?_
    exact j_Ledger_readAct_191 u1 u2 u3 u4 60 y0 μ
  · refine AW.sipush (n := 9999) (by decide +kernel) (by decide +kernel) (?_ : AW _ _ _ _ 191 _ _ _ _ _ _)
    refine AW.sub (L' := [(0, zR (some 0)), (1, zI u1), (2, zI u2), (3, zI u3), (4, zI u4)]) [1, 2, 3, 4, 5] rfl ?_
    exact j_Ledger_readAct_191 u1 u2 u3 u4 9999 y0 μ
def J_Ledger_readAct_165 (u1 : Int) (u2 : Int) (u3 : Int) (u4 : Int) (μ : ZMem) : Option ZRes := J_Ledger_readAct_170 u1 u2 u3 u4 0 μ
set_option maxRecDepth 100000 in
theorem j_Ledger_readAct_165 (u1 : Int) (u2 : Int) (u3 : Int) (u4 : Int) (μ : ZMem) : AW cf_Ledger_readAct S_Ledger.length S_Ledger S_Ledger 165 [(0, zR (some 0)), (1, zI u1), (2, zI u2), (3, zI u3), (4, zI u4)] [] μ 0 0 (J_Ledger_readAct_165 u1 u2 u3 u4 μ) := by
  unfold J_Ledger_readAct_165
  refine AW.iconst (n := 0) (by decide +kernel) (?_ : AW _ _ _ _ 166 _ _ _ _ _ _)
  refine AW.goto (off := 4) (tgt := 170) (by decide +kernel) (by decide) ?_
  exact j_Ledger_readAct_170 u1 u2 u3 u4 0 μ
def J_Ledger_readAct_134 (u1 : Int) (u2 : Int) (u3 : Int) (u4 : Int) (u5 : Int) (μ : ZMem) : Option ZRes := zCm [1, 2] μ (F_Text_isRight  (zVw [1, 2] μ)) (zkI (fun x12 μ11 => if w32 x12 = 0 then (J_Ledger_readAct_196 u1 u2 u3 u4 u5 μ11) else (if w32 u2 = w32 5 then (J_Ledger_readAct_196 u1 u2 u3 u4 u5 μ11) else (if w32 u2 = w32 6 then (J_Ledger_readAct_196 u1 u2 u3 u4 u5 μ11) else (if w32 u2 = w32 1 then (J_Ledger_readAct_165 u1 u2 u3 u4 μ11) else (if w32 u2 = w32 3 then (J_Ledger_readAct_165 u1 u2 u3 u4 μ11) else (J_Ledger_readAct_170 u1 u2 u3 u4 1 μ11))))))) zX0
set_option maxRecDepth 100000 in
theorem j_Ledger_readAct_134 (u1 : Int) (u2 : Int) (u3 : Int) (u4 : Int) (u5 : Int) (μ : ZMem) : AW cf_Ledger_readAct S_Ledger.length S_Ledger S_Ledger 134 [(0, zR (some 0)), (1, zI u1), (2, zI u2), (3, zI u3), (4, zI u4), (5, zI u5)] [] μ 0 0 (J_Ledger_readAct_134 u1 u2 u3 u4 u5 μ) := by
  unfold J_Ledger_readAct_134
  refine AW.aload_n (i := 0) (a := 0) (by decide +kernel) rfl (?_ : AW _ _ _ _ 135 _ _ _ _ _ _)
  refine AW.getR (idx := 10) (ci := 8) (k := 0) (r := 0) (by decide +kernel) rfl rfl rfl (?_ : AW _ _ _ _ 138 _ _ _ _ _ _)
  refine AW.callVm (g := cf_Text_isRight) (Sg := S_Text) (pl := [1, 2]) (av := []) (b0 := 0) (ci := 6) (idx := 372) (n := 0) (st := []) (by decide +kernel) (fun l hl r hr => c_Text_isRight l hl  _ r hr) sb_44 rfl cal_Text_isRight rfl (zw4 zm_X8_372 zi_yX6_isRight zs_yX6_isRight zn_X6) rfl rfl ⟨by decide, by decide, by decide, by decide⟩ (Nat.le_of_ble_eq_true rfl) (Or.inl rfl) (fun v μ11 => AW.rI (fun x12 => (?_ : AW _ _ _ _ 141 _ _ _ _ _ _)) v)
  refine AW.if_eq (off := 55) (tgt := 196) (by decide +kernel) (by decide) (fun _ => ?_) (fun _ => ?_)
  · exact j_Ledger_readAct_196 u1 u2 u3 u4 u5 μ11
  · refine AW.iload_n (i := 2) (a := u2) (by decide +kernel) rfl (?_ : AW _ _ _ _ 145 _ _ _ _ _ _)
    refine AW.iconst (n := 5) (by decide +kernel) (?_ : AW _ _ _ _ 146 _ _ _ _ _ _)
    refine AW.icmp_eq (off := 50) (tgt := 196) (by decide +kernel) (by decide) (fun _ => ?_) (fun _ => ?_)
    · exact j_Ledger_readAct_196 u1 u2 u3 u4 u5 μ11
    · refine AW.iload_n (i := 2) (a := u2) (by decide +kernel) rfl (?_ : AW _ _ _ _ 150 _ _ _ _ _ _)
      refine AW.bipush (n := 6) (by decide +kernel) (by decide +kernel) (?_ : AW _ _ _ _ 152 _ _ _ _ _ _)
      refine AW.icmp_eq (off := 44) (tgt := 196) (by decide +kernel) (by decide) (fun _ => ?_) (fun _ => ?_)
      · exact j_Ledger_readAct_196 u1 u2 u3 u4 u5 μ11
      · refine AW.iload_n (i := 2) (a := u2) (by decide +kernel) rfl (?_ : AW _ _ _ _ 156 _ _ _ _ _ _)
        refine AW.iconst (n := 1) (by decide +kernel) (?_ : AW _ _ _ _ 157 _ _ _ _ _ _)
        refine AW.icmp_eq (off := 8) (tgt := 165) (by decide +kernel) (by decide) (fun _ => ?_) (fun _ => ?_)
        · refine AW.sub (L' := [(0, zR (some 0)), (1, zI u1), (2, zI u2), (3, zI u3), (4, zI u4)]) [0, 1, 2, 3, 4] rfl ?_
          exact j_Ledger_readAct_165 u1 u2 u3 u4 μ11
        · refine AW.iload_n (i := 2) (a := u2) (by decide +kernel) rfl (?_ : AW _ _ _ _ 161 _ _ _ _ _ _)
          refine AW.iconst (n := 3) (by decide +kernel) (?_ : AW _ _ _ _ 162 _ _ _ _ _ _)
          refine AW.icmp_ne (off := 7) (tgt := 169) (by decide +kernel) (by decide) (fun _ => ?_) (fun _ => ?_)
          · refine AW.sub (L' := [(0, zR (some 0)), (1, zI u1), (2, zI u2), (3, zI u3), (4, zI u4)]) [0, 1, 2, 3, 4] rfl ?_
            exact j_Ledger_readAct_165 u1 u2 u3 u4 μ11
          · refine AW.iconst (n := 1) (by decide +kernel) (?_ : AW _ _ _ _ 170 _ _ _ _ _ _)
            refine AW.sub (L' := [(0, zR (some 0)), (1, zI u1), (2, zI u2), (3, zI u3), (4, zI u4)]) [0, 1, 2, 3, 4] rfl ?_
            exact j_Ledger_readAct_170 u1 u2 u3 u4 1 μ11
def J_Ledger_readAct_99 (u1 : Int) (u2 : Int) (u3 : Int) (u4 : Int) (u5 : Int) (μ : ZMem) : Option ZRes := zCm [1, 2] μ (F_Text_isRight  (zVw [1, 2] μ)) (zkI (fun x10 μ9 => if w32 x10 = 0 then (J_Ledger_readAct_134 u1 u2 u3 u4 u5 μ9) else (if w32 u2 = w32 7 then (zCm [1, 2] μ9 (F_Text_takeNumberUnlike u3 ((μ9 3 3) - 1) (zVw [1, 2] μ9)) (zkI (fun x26 μ25 => J_Ledger_readAct_134 u1 u2 u3 x26 u5 μ25)) zX0) else (J_Ledger_readAct_134 u1 u2 u3 u4 u5 μ9)))) zX0
set_option maxRecDepth 100000 in
theorem j_Ledger_readAct_99 (u1 : Int) (u2 : Int) (u3 : Int) (u4 : Int) (u5 : Int) (μ : ZMem) : AW cf_Ledger_readAct S_Ledger.length S_Ledger S_Ledger 99 [(0, zR (some 0)), (1, zI u1), (2, zI u2), (3, zI u3), (4, zI u4), (5, zI u5)] [] μ 0 0 (J_Ledger_readAct_99 u1 u2 u3 u4 u5 μ) := by
  unfold J_Ledger_readAct_99
  refine AW.aload_n (i := 0) (a := 0) (by decide +kernel) rfl (?_ : AW _ _ _ _ 100 _ _ _ _ _ _)
  refine AW.getR (idx := 10) (ci := 8) (k := 0) (r := 0) (by decide +kernel) rfl rfl rfl (?_ : AW _ _ _ _ 103 _ _ _ _ _ _)
  refine AW.callVm (g := cf_Text_isRight) (Sg := S_Text) (pl := [1, 2]) (av := []) (b0 := 0) (ci := 6) (idx := 372) (n := 0) (st := []) (by decide +kernel) (fun l hl r hr => c_Text_isRight l hl  _ r hr) sb_44 rfl cal_Text_isRight rfl (zw4 zm_X8_372 zi_yX6_isRight zs_yX6_isRight zn_X6) rfl rfl ⟨by decide, by decide, by decide, by decide⟩ (Nat.le_of_ble_eq_true rfl) (Or.inl rfl) (fun v μ9 => AW.rI (fun x10 => (?_ : AW _ _ _ _ 106 _ _ _ _ _ _)) v)
  refine AW.if_eq (off := 28) (tgt := 134) (by decide +kernel) (by decide) (fun _ => ?_) (fun _ => ?_)
  · exact j_Ledger_readAct_134 u1 u2 u3 u4 u5 μ9
  · refine AW.iload_n (i := 2) (a := u2) (by decide +kernel) rfl (?_ : AW _ _ _ _ 110 _ _ _ _ _ _)
    refine AW.bipush (n := 7) (by decide +kernel) (by decide +kernel) (?_ : AW _ _ _ _ 112 _ _ _ _ _ _)
    refine AW.icmp_ne (off := 22) (tgt := 134) (by decide +kernel) (by decide) (fun _ => ?_) (fun _ => ?_)
    · refine AW.aload_n (i := 0) (a := 0) (by decide +kernel) rfl (?_ : AW _ _ _ _ 116 _ _ _ _ _ _)
      refine AW.getR (idx := 10) (ci := 8) (k := 0) (r := 0) (by decide +kernel) rfl rfl rfl (?_ : AW _ _ _ _ 119 _ _ _ _ _ _)
      refine AW.iload_n (i := 3) (a := u3) (by decide +kernel) rfl (?_ : AW _ _ _ _ 120 _ _ _ _ _ _)
      refine AW.aload_n (i := 0) (a := 0) (by decide +kernel) rfl (?_ : AW _ _ _ _ 121 _ _ _ _ _ _)
      refine AW.getR (idx := 19) (ci := 8) (k := 1) (r := 0) (by decide +kernel) rfl rfl rfl (?_ : AW _ _ _ _ 124 _ _ _ _ _ _)
      refine AW.getI (idx := 96) (ci := 1) (k := 3) (r := 3) (by decide +kernel) rfl rfl rfl (?_ : AW _ _ _ _ 127 _ _ _ _ _ _)
      refine AW.iconst (n := 1) (by decide +kernel) (?_ : AW _ _ _ _ 128 _ _ _ _ _ _)
      refine AW.isub (by decide +kernel) (?_ : AW _ _ _ _ 129 _ _ _ _ _ _)
      refine AW.callVm (g := cf_Text_takeNumberUnlike) (Sg := S_Text) (pl := [1, 2]) (av := [zI u3, zI ((μ9 3 3) - 1)]) (b0 := 0) (ci := 6) (idx := 375) (n := 2) (st := []) (by decide +kernel) (fun l hl r hr => c_Text_takeNumberUnlike l hl u3 ((μ9 3 3) - 1) _ r hr) sb_44 rfl cal_Text_takeNumberUnlike rfl (zw4 zm_X8_375 zi_yX6_takeNumberUnlike zs_yX6_takeNumberUnlike zn_X6) rfl rfl ⟨by decide, by decide, by decide, by decide⟩ (Nat.le_of_ble_eq_true rfl) (Or.inl rfl) (fun v μ25 => AW.rI (fun x26 => (?_ : AW _ _ _ _ 132 _ _ _ _ _ _)) v)
      refine AW.istore' (i := 4) (L' := [(4, zI x26), (0, zR (some 0)), (1, zI u1), (2, zI u2), (3, zI u3), (5, zI u5)]) (by decide +kernel) (by decide) rfl (?_ : AW _ _ _ _ 134 _ _ _ _ _ _)
      refine AW.sub (L' := [(0, zR (some 0)), (1, zI u1), (2, zI u2), (3, zI u3), (4, zI x26), (5, zI u5)]) [1, 2, 3, 4, 0, 5] rfl ?_
      exact j_Ledger_readAct_134 u1 u2 u3 x26 u5 μ25
    · exact j_Ledger_readAct_134 u1 u2 u3 u4 u5 μ9
def J_Ledger_readAct_49 (u1 : Int) (u2 : Int) (u4 : Int) (u5 : Int) (μ : ZMem) : Option ZRes := zCm [1, 2] μ (F_Text_takeNumber 0 ((μ 3 3) - 1) (zVw [1, 2] μ)) (zkI (fun x8 μ7 => J_Ledger_readAct_99 u1 u2 x8 u4 u5 μ7)) zX0
set_option maxRecDepth 100000 in
theorem j_Ledger_readAct_49 (u1 : Int) (u2 : Int) (u4 : Int) (u5 : Int) (μ : ZMem) : AW cf_Ledger_readAct S_Ledger.length S_Ledger S_Ledger 49 [(0, zR (some 0)), (1, zI u1), (2, zI u2), (4, zI u4), (5, zI u5)] [] μ 0 0 (J_Ledger_readAct_49 u1 u2 u4 u5 μ) := by
  unfold J_Ledger_readAct_49
  refine AW.aload_n (i := 0) (a := 0) (by decide +kernel) rfl (?_ : AW _ _ _ _ 50 _ _ _ _ _ _)
  refine AW.getR (idx := 10) (ci := 8) (k := 0) (r := 0) (by decide +kernel) rfl rfl rfl (?_ : AW _ _ _ _ 53 _ _ _ _ _ _)
  refine AW.iconst (n := 0) (by decide +kernel) (?_ : AW _ _ _ _ 54 _ _ _ _ _ _)
  refine AW.aload_n (i := 0) (a := 0) (by decide +kernel) rfl (?_ : AW _ _ _ _ 55 _ _ _ _ _ _)
  refine AW.getR (idx := 19) (ci := 8) (k := 1) (r := 0) (by decide +kernel) rfl rfl rfl (?_ : AW _ _ _ _ 58 _ _ _ _ _ _)
  refine AW.getI (idx := 96) (ci := 1) (k := 3) (r := 3) (by decide +kernel) rfl rfl rfl (?_ : AW _ _ _ _ 61 _ _ _ _ _ _)
  refine AW.iconst (n := 1) (by decide +kernel) (?_ : AW _ _ _ _ 62 _ _ _ _ _ _)
  refine AW.isub (by decide +kernel) (?_ : AW _ _ _ _ 63 _ _ _ _ _ _)
  refine AW.callVm (g := cf_Text_takeNumber) (Sg := S_Text) (pl := [1, 2]) (av := [zI 0, zI ((μ 3 3) - 1)]) (b0 := 0) (ci := 6) (idx := 369) (n := 2) (st := []) (by decide +kernel) (fun l hl r hr => c_Text_takeNumber l hl 0 ((μ 3 3) - 1) _ r hr) sb_44 rfl cal_Text_takeNumber rfl (zw4 zm_X8_369 zi_yX6_takeNumber zs_yX6_takeNumber zn_X6) rfl rfl ⟨by decide, by decide, by decide, by decide⟩ (Nat.le_of_ble_eq_true rfl) (Or.inl rfl) (fun v μ7 => AW.rI (fun x8 => (?_ : AW _ _ _ _ 66 _ _ _ _ _ _)) v)
  refine AW.istore_n' (i := 3) (L' := [(3, zI x8), (0, zR (some 0)), (1, zI u1), (2, zI u2), (4, zI u4), (5, zI u5)]) (by decide +kernel) (by decide) rfl (?_ : AW _ _ _ _ 67 _ _ _ _ _ _)
  refine AW.goto (off := 32) (tgt := 99) (by decide +kernel) (by decide) ?_
  refine AW.sub (L' := [(0, zR (some 0)), (1, zI u1), (2, zI u2), (3, zI x8), (4, zI u4), (5, zI u5)]) [1, 2, 3, 0, 4, 5] rfl ?_
  exact j_Ledger_readAct_99 u1 u2 x8 u4 u5 μ7
def F_Ledger_readAct (μ : ZMem) : Option ZRes := zCm [1, 2] μ (F_Text_next  (zVw [1, 2] μ)) (zkI (fun x2 μ1 => zCm [1, 2] μ1 (F_Text_takeKind  (zVw [1, 2] μ1)) (zkI (fun x4 μ3 => if w32 x4 = w32 (-1) then (zCm [1, 2] μ3 (F_Text_refuse x2 (zVw [1, 2] μ3)) (zkI (fun x6 μ5 => if x6 = 0 ∨ x6 = 1 then some (.inr (some (zI x6)), μ5) else none)) zX0) else (if w32 x4 = w32 5 then (J_Ledger_readAct_49 x2 x4 (-1) 0 μ3) else (if w32 x4 = w32 7 then (J_Ledger_readAct_49 x2 x4 (-1) 0 μ3) else (if w32 x4 = w32 4 then (J_Ledger_readAct_99 x2 x4 (-1) (-1) 0 μ3) else (if w32 x4 = w32 6 then (J_Ledger_readAct_99 x2 x4 (-1) (-1) 0 μ3) else (zCm [1, 2] μ3 (F_Text_takeNumber 0 ((μ3 3 4) - 1) (zVw [1, 2] μ3)) (zkI (fun x28 μ27 => J_Ledger_readAct_99 x2 x4 x28 (-1) 0 μ27)) zX0))))))) zX0)) zX0
set_option maxRecDepth 100000 in
theorem w_Ledger_readAct (μ : ZMem) : AW cf_Ledger_readAct S_Ledger.length S_Ledger S_Ledger 0 [(0, zR (some 0))] [] μ 0 0 (F_Ledger_readAct μ) := by
  unfold F_Ledger_readAct
  refine AW.aload_n (i := 0) (a := 0) (by decide +kernel) rfl (?_ : AW _ _ _ _ 1 _ _ _ _ _ _)
  refine AW.getR (idx := 10) (ci := 8) (k := 0) (r := 0) (by decide +kernel) rfl rfl rfl (?_ : AW _ _ _ _ 4 _ _ _ _ _ _)
  refine AW.callVm (g := cf_Text_next) (Sg := S_Text) (pl := [1, 2]) (av := []) (b0 := 0) (ci := 6) (idx := 360) (n := 0) (st := []) (by decide +kernel) (fun l hl r hr => c_Text_next l hl  _ r hr) sb_44 rfl cal_Text_next rfl (zw4 zm_X8_360 zi_yX6_next zs_yX6_next zn_X6) rfl rfl ⟨by decide, by decide, by decide, by decide⟩ (Nat.le_of_ble_eq_true rfl) (Or.inl rfl) (fun v μ1 => AW.rI (fun x2 => (?_ : AW _ _ _ _ 7 _ _ _ _ _ _)) v)
  refine AW.istore_n' (i := 1) (L' := [(1, zI x2), (0, zR (some 0))]) (by decide +kernel) (by decide) rfl (?_ : AW _ _ _ _ 8 _ _ _ _ _ _)
  refine AW.aload_n (i := 0) (a := 0) (by decide +kernel) rfl (?_ : AW _ _ _ _ 9 _ _ _ _ _ _)
  refine AW.getR (idx := 10) (ci := 8) (k := 0) (r := 0) (by decide +kernel) rfl rfl rfl (?_ : AW _ _ _ _ 12 _ _ _ _ _ _)
  refine AW.callVm (g := cf_Text_takeKind) (Sg := S_Text) (pl := [1, 2]) (av := []) (b0 := 0) (ci := 6) (idx := 363) (n := 0) (st := []) (by decide +kernel) (fun l hl r hr => c_Text_takeKind l hl  _ r hr) sb_44 rfl cal_Text_takeKind rfl (zw4 zm_X8_363 zi_yX6_takeKind zs_yX6_takeKind zn_X6) rfl rfl ⟨by decide, by decide, by decide, by decide⟩ (Nat.le_of_ble_eq_true rfl) (Or.inl rfl) (fun v μ3 => AW.rI (fun x4 => (?_ : AW _ _ _ _ 15 _ _ _ _ _ _)) v)
  refine AW.istore_n' (i := 2) (L' := [(2, zI x4), (1, zI x2), (0, zR (some 0))]) (by decide +kernel) (by decide) rfl (?_ : AW _ _ _ _ 16 _ _ _ _ _ _)
  refine AW.iload_n (i := 2) (a := x4) (by decide +kernel) rfl (?_ : AW _ _ _ _ 17 _ _ _ _ _ _)
  refine AW.iconst (n := -1) (by decide +kernel) (?_ : AW _ _ _ _ 18 _ _ _ _ _ _)
  refine AW.icmp_ne (off := 12) (tgt := 30) (by decide +kernel) (by decide) (fun _ => ?_) (fun _ => ?_)
  · refine AW.aload_n (i := 0) (a := 0) (by decide +kernel) rfl (?_ : AW _ _ _ _ 22 _ _ _ _ _ _)
    refine AW.getR (idx := 10) (ci := 8) (k := 0) (r := 0) (by decide +kernel) rfl rfl rfl (?_ : AW _ _ _ _ 25 _ _ _ _ _ _)
    refine AW.iload_n (i := 1) (a := x2) (by decide +kernel) rfl (?_ : AW _ _ _ _ 26 _ _ _ _ _ _)
    refine AW.callVm (g := cf_Text_refuse) (Sg := S_Text) (pl := [1, 2]) (av := [zI x2]) (b0 := 0) (ci := 6) (idx := 366) (n := 1) (st := []) (by decide +kernel) (fun l hl r hr => c_Text_refuse l hl x2 _ r hr) sb_44 rfl cal_Text_refuse rfl (zw4 zm_X8_366 zi_yX6_refuse zs_yX6_refuse zn_X6) rfl rfl ⟨by decide, by decide, by decide, by decide⟩ (Nat.le_of_ble_eq_true rfl) (Or.inl rfl) (fun v μ5 => AW.rI (fun x6 => (?_ : AW _ _ _ _ 29 _ _ _ _ _ _)) v)
    exact AW.retb (by decide +kernel) rfl (by decide) (by decide)
  · refine AW.iconst (n := -1) (by decide +kernel) (?_ : AW _ _ _ _ 31 _ _ _ _ _ _)
    refine AW.istore_n' (i := 3) (L' := [(3, zI (-1)), (2, zI x4), (1, zI x2), (0, zR (some 0))]) (by decide +kernel) (by decide) rfl (?_ : AW _ _ _ _ 32 _ _ _ _ _ _)
    refine AW.iconst (n := -1) (by decide +kernel) (?_ : AW _ _ _ _ 33 _ _ _ _ _ _)
    refine AW.istore' (i := 4) (L' := [(4, zI (-1)), (3, zI (-1)), (2, zI x4), (1, zI x2), (0, zR (some 0))]) (by decide +kernel) (by decide) rfl (?_ : AW _ _ _ _ 35 _ _ _ _ _ _)
    refine AW.iconst (n := 0) (by decide +kernel) (?_ : AW _ _ _ _ 36 _ _ _ _ _ _)
    refine AW.istore' (i := 5) (L' := [(5, zI 0), (4, zI (-1)), (3, zI (-1)), (2, zI x4), (1, zI x2), (0, zR (some 0))]) (by decide +kernel) (by decide) rfl (?_ : AW _ _ _ _ 38 _ _ _ _ _ _)
    refine AW.iload_n (i := 2) (a := x4) (by decide +kernel) rfl (?_ : AW _ _ _ _ 39 _ _ _ _ _ _)
    refine AW.iconst (n := 5) (by decide +kernel) (?_ : AW _ _ _ _ 40 _ _ _ _ _ _)
    refine AW.icmp_eq (off := 9) (tgt := 49) (by decide +kernel) (by decide) (fun _ => ?_) (fun _ => ?_)
    · refine AW.sub (L' := [(0, zR (some 0)), (1, zI x2), (2, zI x4), (4, zI (-1)), (5, zI 0)]) [5, 4, 3, 1, 0] rfl ?_
      exact j_Ledger_readAct_49 x2 x4 (-1) 0 μ3
    · refine AW.iload_n (i := 2) (a := x4) (by decide +kernel) rfl (?_ : AW _ _ _ _ 44 _ _ _ _ _ _)
      refine AW.bipush (n := 7) (by decide +kernel) (by decide +kernel) (?_ : AW _ _ _ _ 46 _ _ _ _ _ _)
      refine AW.icmp_ne (off := 24) (tgt := 70) (by decide +kernel) (by decide) (fun _ => ?_) (fun _ => ?_)
      · refine AW.sub (L' := [(0, zR (some 0)), (1, zI x2), (2, zI x4), (4, zI (-1)), (5, zI 0)]) [5, 4, 3, 1, 0] rfl ?_
        exact j_Ledger_readAct_49 x2 x4 (-1) 0 μ3
      · refine AW.iload_n (i := 2) (a := x4) (by decide +kernel) rfl (?_ : AW _ _ _ _ 71 _ _ _ _ _ _)
        refine AW.iconst (n := 4) (by decide +kernel) (?_ : AW _ _ _ _ 72 _ _ _ _ _ _)
        refine AW.icmp_eq (off := 27) (tgt := 99) (by decide +kernel) (by decide) (fun _ => ?_) (fun _ => ?_)
        · refine AW.sub (L' := [(0, zR (some 0)), (1, zI x2), (2, zI x4), (3, zI (-1)), (4, zI (-1)), (5, zI 0)]) [5, 4, 3, 2, 1, 0] rfl ?_
          exact j_Ledger_readAct_99 x2 x4 (-1) (-1) 0 μ3
        · refine AW.iload_n (i := 2) (a := x4) (by decide +kernel) rfl (?_ : AW _ _ _ _ 76 _ _ _ _ _ _)
          refine AW.bipush (n := 6) (by decide +kernel) (by decide +kernel) (?_ : AW _ _ _ _ 78 _ _ _ _ _ _)
          refine AW.icmp_eq (off := 21) (tgt := 99) (by decide +kernel) (by decide) (fun _ => ?_) (fun _ => ?_)
          · refine AW.sub (L' := [(0, zR (some 0)), (1, zI x2), (2, zI x4), (3, zI (-1)), (4, zI (-1)), (5, zI 0)]) [5, 4, 3, 2, 1, 0] rfl ?_
            exact j_Ledger_readAct_99 x2 x4 (-1) (-1) 0 μ3
          · refine AW.aload_n (i := 0) (a := 0) (by decide +kernel) rfl (?_ : AW _ _ _ _ 82 _ _ _ _ _ _)
            refine AW.getR (idx := 10) (ci := 8) (k := 0) (r := 0) (by decide +kernel) rfl rfl rfl (?_ : AW _ _ _ _ 85 _ _ _ _ _ _)
            refine AW.iconst (n := 0) (by decide +kernel) (?_ : AW _ _ _ _ 86 _ _ _ _ _ _)
            refine AW.aload_n (i := 0) (a := 0) (by decide +kernel) rfl (?_ : AW _ _ _ _ 87 _ _ _ _ _ _)
            refine AW.getR (idx := 19) (ci := 8) (k := 1) (r := 0) (by decide +kernel) rfl rfl rfl (?_ : AW _ _ _ _ 90 _ _ _ _ _ _)
            refine AW.getI (idx := 306) (ci := 1) (k := 4) (r := 3) (by decide +kernel) rfl rfl rfl (?_ : AW _ _ _ _ 93 _ _ _ _ _ _)
            refine AW.iconst (n := 1) (by decide +kernel) (?_ : AW _ _ _ _ 94 _ _ _ _ _ _)
            refine AW.isub (by decide +kernel) (?_ : AW _ _ _ _ 95 _ _ _ _ _ _)
            refine AW.callVm (g := cf_Text_takeNumber) (Sg := S_Text) (pl := [1, 2]) (av := [zI 0, zI ((μ3 3 4) - 1)]) (b0 := 0) (ci := 6) (idx := 369) (n := 2) (st := []) (by decide +kernel) (fun l hl r hr => c_Text_takeNumber l hl 0 ((μ3 3 4) - 1) _ r hr) sb_44 rfl cal_Text_takeNumber rfl (zw4 zm_X8_369 zi_yX6_takeNumber zs_yX6_takeNumber zn_X6) rfl rfl ⟨by decide, by decide, by decide, by decide⟩ (Nat.le_of_ble_eq_true rfl) (Or.inl rfl) (fun v μ27 => AW.rI (fun x28 => (?_ : AW _ _ _ _ 98 _ _ _ _ _ _)) v)
            refine AW.istore_n' (i := 3) (L' := [(3, zI x28), (5, zI 0), (4, zI (-1)), (2, zI x4), (1, zI x2), (0, zR (some 0))]) (by decide +kernel) (by decide) rfl (?_ : AW _ _ _ _ 99 _ _ _ _ _ _)
            refine AW.sub (L' := [(0, zR (some 0)), (1, zI x2), (2, zI x4), (3, zI x28), (4, zI (-1)), (5, zI 0)]) [5, 4, 3, 0, 2, 1] rfl ?_
            exact j_Ledger_readAct_99 x2 x4 x28 (-1) 0 μ27
theorem c_Ledger_readAct (l : Launch) (hl : l.stackTraces = false) (μ : ZMem) (r : ZRes) (h : F_Ledger_readAct μ = some r) : ZC l cf_Ledger_readAct S_Ledger S_Ledger [zR (some 0)] μ r := ZC.of hl (by decide +kernel) rfl rfl zft_X8_ok (Nat.le_of_ble_eq_true rfl) h (w_Ledger_readAct μ)
/-! WeirLedger.readActs()Z -/
def cf_Ledger_readActs : ZCf := (yX8_readActs, cX8_readActs, 2, some .boolean, [], 13, 0, 0, zft_X8, none)
theorem cal_Ledger_readActs : zCallee cf_Ledger_readActs 0 := ⟨rfl, zc_yX8_readActs, by decide, by decide, by decide +kernel⟩
def L_Ledger_readActs_14 (K : ZMem → Option ZRes) : Nat → Int → ZMem → Option ZRes
  | 0, _, _ => none
  | n + 1, v1, μ => if w32 14 < w32 v1 then (K  μ) else (zC (F_Ledger_readAct  μ) (zkI (fun x4 μ3 => if w32 x4 = 0 then (some (.inr (some (zI 0)), μ3)) else (zCm [1, 2] μ3 (F_Text_isThrough  (zVw [1, 2] μ3)) (zkI (fun x6 μ5 => if w32 x6 = 0 then (zCm [1, 2] μ5 (F_Text_takeSemicolon  (zVw [1, 2] μ5)) (zkI (fun x8 μ7 => if w32 x8 = 0 then (zCm [1, 2] μ7 (F_Text_refuseNext  (zVw [1, 2] μ7)) (zkI (fun x10 μ9 => if x10 = 0 ∨ x10 = 1 then some (.inr (some (zI x10)), μ9) else none)) zX0) else (zLet (v1 + 1) (fun x11 => L_Ledger_readActs_14 K n x11 μ7)))) zX0) else (some (.inr (some (zI 1)), μ5)))) zX0))) zX0)
set_option maxRecDepth 100000 in
theorem l_Ledger_readActs_14 {K : ZMem → Option ZRes} (hK : ∀ (μ : ZMem), AW cf_Ledger_readActs S_Ledger.length S_Ledger S_Ledger 65 [(0, zR (some 0))] [] μ 0 0 (K μ)) : ∀ (n : Nat) (v1 : Int) (μ : ZMem), AW cf_Ledger_readActs S_Ledger.length S_Ledger S_Ledger 14 [(0, zR (some 0)), (1, zI v1)] [] μ 0 0 (L_Ledger_readActs_14 K n v1 μ) := by
  intro n
  induction n with
  | zero => intro v1 μ; exact AW.noth
  | succ n ih =>
    intro v1 μ
    rw [L_Ledger_readActs_14]
    refine AW.iload_n (i := 1) (a := v1) (by decide +kernel) rfl (?_ : AW _ _ _ _ 15 _ _ _ _ _ _)
    refine AW.bipush (n := 14) (by decide +kernel) (by decide +kernel) (?_ : AW _ _ _ _ 17 _ _ _ _ _ _)
    refine AW.icmp_gt (off := 48) (tgt := 65) (by decide +kernel) (by decide) (fun _ => ?_) (fun _ => ?_)
    · refine AW.sub (L' := [(0, zR (some 0))]) [0] rfl ?_
      exact hK  μ
    · refine AW.aload_n (i := 0) (a := 0) (by decide +kernel) rfl (?_ : AW _ _ _ _ 21 _ _ _ _ _ _)
      refine AW.callVw (g := cf_Ledger_readAct) (av := []) (b0 := 0) (ci := 8) (idx := 351) (n := 0) (st := []) (by decide +kernel) (fun l hl r hr => c_Ledger_readAct l hl  _ r hr) S_Ledger_wf rfl cal_Ledger_readAct rfl (zw4 zm_X8_351 zi_yX8_readAct zs_yX8_readAct zn_X8) rfl rfl ⟨by decide, by decide, by decide, by decide⟩ (Nat.le_of_ble_eq_true rfl) (Or.inl rfl) (fun v μ3 => AW.kI (fun x4 => (?_ : AW _ _ _ _ 24 _ _ _ _ _ _)) v)
      refine AW.if_ne (off := 5) (tgt := 29) (by decide +kernel) (by decide) (fun _ => ?_) (fun _ => ?_)
      · refine AW.iconst (n := 0) (by decide +kernel) (?_ : AW _ _ _ _ 28 _ _ _ _ _ _)
        exact AW.retb1 (by decide +kernel) rfl (by decide) (by decide) (by decide)
      · refine AW.aload_n (i := 0) (a := 0) (by decide +kernel) rfl (?_ : AW _ _ _ _ 30 _ _ _ _ _ _)
        refine AW.getR (idx := 10) (ci := 8) (k := 0) (r := 0) (by decide +kernel) rfl rfl rfl (?_ : AW _ _ _ _ 33 _ _ _ _ _ _)
        refine AW.callVm (g := cf_Text_isThrough) (Sg := S_Text) (pl := [1, 2]) (av := []) (b0 := 0) (ci := 6) (idx := 348) (n := 0) (st := []) (by decide +kernel) (fun l hl r hr => c_Text_isThrough l hl  _ r hr) sb_44 rfl cal_Text_isThrough rfl (zw4 zm_X8_348 zi_yX6_isThrough zs_yX6_isThrough zn_X6) rfl rfl ⟨by decide, by decide, by decide, by decide⟩ (Nat.le_of_ble_eq_true rfl) (Or.inl rfl) (fun v μ5 => AW.rI (fun x6 => (?_ : AW _ _ _ _ 36 _ _ _ _ _ _)) v)
        refine AW.if_eq (off := 5) (tgt := 41) (by decide +kernel) (by decide) (fun _ => ?_) (fun _ => ?_)
        · refine AW.aload_n (i := 0) (a := 0) (by decide +kernel) rfl (?_ : AW _ _ _ _ 42 _ _ _ _ _ _)
          refine AW.getR (idx := 10) (ci := 8) (k := 0) (r := 0) (by decide +kernel) rfl rfl rfl (?_ : AW _ _ _ _ 45 _ _ _ _ _ _)
          refine AW.callVm (g := cf_Text_takeSemicolon) (Sg := S_Text) (pl := [1, 2]) (av := []) (b0 := 0) (ci := 6) (idx := 354) (n := 0) (st := []) (by decide +kernel) (fun l hl r hr => c_Text_takeSemicolon l hl  _ r hr) sb_44 rfl cal_Text_takeSemicolon rfl (zw4 zm_X8_354 zi_yX6_takeSemicolon zs_yX6_takeSemicolon zn_X6) rfl rfl ⟨by decide, by decide, by decide, by decide⟩ (Nat.le_of_ble_eq_true rfl) (Or.inl rfl) (fun v μ7 => AW.rI (fun x8 => (?_ : AW _ _ _ _ 48 _ _ _ _ _ _)) v)
          refine AW.if_ne (off := 11) (tgt := 59) (by decide +kernel) (by decide) (fun _ => ?_) (fun _ => ?_)
          · refine AW.aload_n (i := 0) (a := 0) (by decide +kernel) rfl (?_ : AW _ _ _ _ 52 _ _ _ _ _ _)
            refine AW.getR (idx := 10) (ci := 8) (k := 0) (r := 0) (by decide +kernel) rfl rfl rfl (?_ : AW _ _ _ _ 55 _ _ _ _ _ _)
            refine AW.callVm (g := cf_Text_refuseNext) (Sg := S_Text) (pl := [1, 2]) (av := []) (b0 := 0) (ci := 6) (idx := 357) (n := 0) (st := []) (by decide +kernel) (fun l hl r hr => c_Text_refuseNext l hl  _ r hr) sb_44 rfl cal_Text_refuseNext rfl (zw4 zm_X8_357 zi_yX6_refuseNext zs_yX6_refuseNext zn_X6) rfl rfl ⟨by decide, by decide, by decide, by decide⟩ (Nat.le_of_ble_eq_true rfl) (Or.inl rfl) (fun v μ9 => AW.rI (fun x10 => (?_ : AW _ _ _ _ 58 _ _ _ _ _ _)) v)
            exact AW.retb (by decide +kernel) rfl (by decide) (by decide)
          · refine AW.iincL (i := 1) (n := 1) (a := v1) (L' := fun x11 => [(1, zI x11), (0, zR (some 0))]) (by decide +kernel) rfl (by decide) (fun _ => rfl) (fun x11 => (?_ : AW _ _ _ _ 62 _ _ _ _ _ _))
            refine AW.goto (off := -48) (tgt := 14) (by decide +kernel) (by decide) ?_
            refine AW.sub (L' := [(0, zR (some 0)), (1, zI x11)]) [1, 0] rfl ?_
            exact ih x11 μ7
        · refine AW.iconst (n := 1) (by decide +kernel) (?_ : AW _ _ _ _ 40 _ _ _ _ _ _)
          exact AW.retb1 (by decide +kernel) rfl (by decide) (by decide) (by decide)
def F_Ledger_readActs (μ : ZMem) : Option ZRes := zCm [1, 2] μ (F_Text_isThrough  (zVw [1, 2] μ)) (zkI (fun x2 μ1 => if w32 x2 = 0 then (L_Ledger_readActs_14 (fun μ12 => zCm [1, 2] μ12 (F_Text_refuseNext  (zVw [1, 2] μ12)) (zkI (fun x14 μ13 => if x14 = 0 ∨ x14 = 1 then some (.inr (some (zI x14)), μ13) else none)) zX0) zN 1 μ1) else (some (.inr (some (zI 1)), μ1)))) zX0
set_option maxRecDepth 100000 in
theorem w_Ledger_readActs (μ : ZMem) : AW cf_Ledger_readActs S_Ledger.length S_Ledger S_Ledger 0 [(0, zR (some 0))] [] μ 0 0 (F_Ledger_readActs μ) := by
  unfold F_Ledger_readActs
  refine AW.aload_n (i := 0) (a := 0) (by decide +kernel) rfl (?_ : AW _ _ _ _ 1 _ _ _ _ _ _)
  refine AW.getR (idx := 10) (ci := 8) (k := 0) (r := 0) (by decide +kernel) rfl rfl rfl (?_ : AW _ _ _ _ 4 _ _ _ _ _ _)
  refine AW.callVm (g := cf_Text_isThrough) (Sg := S_Text) (pl := [1, 2]) (av := []) (b0 := 0) (ci := 6) (idx := 348) (n := 0) (st := []) (by decide +kernel) (fun l hl r hr => c_Text_isThrough l hl  _ r hr) sb_44 rfl cal_Text_isThrough rfl (zw4 zm_X8_348 zi_yX6_isThrough zs_yX6_isThrough zn_X6) rfl rfl ⟨by decide, by decide, by decide, by decide⟩ (Nat.le_of_ble_eq_true rfl) (Or.inl rfl) (fun v μ1 => AW.rI (fun x2 => (?_ : AW _ _ _ _ 7 _ _ _ _ _ _)) v)
  refine AW.if_eq (off := 5) (tgt := 12) (by decide +kernel) (by decide) (fun _ => ?_) (fun _ => ?_)
  · refine AW.iconst (n := 1) (by decide +kernel) (?_ : AW _ _ _ _ 13 _ _ _ _ _ _)
    refine AW.istore_n' (i := 1) (L' := [(1, zI 1), (0, zR (some 0))]) (by decide +kernel) (by decide) rfl (?_ : AW _ _ _ _ 14 _ _ _ _ _ _)
    refine AW.sub (L' := [(0, zR (some 0)), (1, zI 1)]) [1, 0] rfl ?_
    refine l_Ledger_readActs_14 (fun μ12 => ?_) zN _ _
    refine AW.aload_n (i := 0) (a := 0) (by decide +kernel) rfl (?_ : AW _ _ _ _ 66 _ _ _ _ _ _)
    refine AW.getR (idx := 10) (ci := 8) (k := 0) (r := 0) (by decide +kernel) rfl rfl rfl (?_ : AW _ _ _ _ 69 _ _ _ _ _ _)
    refine AW.callVm (g := cf_Text_refuseNext) (Sg := S_Text) (pl := [1, 2]) (av := []) (b0 := 0) (ci := 6) (idx := 357) (n := 0) (st := []) (by decide +kernel) (fun l hl r hr => c_Text_refuseNext l hl  _ r hr) sb_44 rfl cal_Text_refuseNext rfl (zw4 zm_X8_357 zi_yX6_refuseNext zs_yX6_refuseNext zn_X6) rfl rfl ⟨by decide, by decide, by decide, by decide⟩ (Nat.le_of_ble_eq_true rfl) (Or.inl rfl) (fun v μ13 => AW.rI (fun x14 => (?_ : AW _ _ _ _ 72 _ _ _ _ _ _)) v)
    exact AW.retb (by decide +kernel) rfl (by decide) (by decide)
  · refine AW.iconst (n := 1) (by decide +kernel) (?_ : AW _ _ _ _ 11 _ _ _ _ _ _)
    exact AW.retb1 (by decide +kernel) rfl (by decide) (by decide) (by decide)
theorem c_Ledger_readActs (l : Launch) (hl : l.stackTraces = false) (μ : ZMem) (r : ZRes) (h : F_Ledger_readActs μ = some r) : ZC l cf_Ledger_readActs S_Ledger S_Ledger [zR (some 0)] μ r := ZC.of hl (by decide +kernel) rfl rfl zft_X8_ok (Nat.le_of_ble_eq_true rfl) h (w_Ledger_readActs μ)
/-! WeirLedger.acts()I -/
def cf_Ledger_acts : ZCf := (yX8_acts, cX8_acts, 3, some .int, [], 14, 1, 6, zft_X8, none)
theorem cal_Ledger_acts : zCallee cf_Ledger_acts 0 := ⟨rfl, zc_yX8_acts, by decide, by decide, by decide +kernel⟩
theorem thr_Ledger_acts_55 : zThr cf_Ledger_acts 55 83 85 zEn "java/lang/IllegalArgumentException" := zThr_of ztw_IllegalArgumentException (by decide +kernel) (by decide +kernel) (by decide +kernel) (by decide +kernel) rfl (by decide)
def J_Ledger_acts_55 (μ : ZMem) : Option ZRes := some (.inl "java/lang/IllegalArgumentException", μ)
set_option maxRecDepth 100000 in
theorem j_Ledger_acts_55 (μ : ZMem) : AW cf_Ledger_acts S_Ledger.length S_Ledger S_Ledger 55 [] [] μ 0 0 (J_Ledger_acts_55 μ) := by
  unfold J_Ledger_acts_55
  exact AW.throw thr_Ledger_acts_55 (by decide) (by decide) (by decide)
def F_Ledger_acts (μ : ZMem) : Option ZRes := zLet ((μ 11 1)) (fun x1 => zCm [1, 2] μ (F_Text_rewind  (zVw [1, 2] μ)) (zkV (fun μ2 => zC (F_Ledger_readActs  μ2) (zkI (fun x5 μ4 => zLet (zUp μ4 1 1 0) (fun μ6 => if w32 x5 = 0 then (if w32 (μ6 11 1) = w32 x1 then (J_Ledger_acts_55 μ6) else (zLet (zUp μ6 11 1 x1) (fun μ7 => zC (F_Ledger_goThroughAnew  μ7) (zkV (fun μ8 => J_Ledger_acts_55 μ8)) zX0))) else (some (.inr (some (zI ((μ6 11 1) - x1))), μ6))))) zX0)) zX0)
set_option maxRecDepth 100000 in
theorem w_Ledger_acts (μ : ZMem) : AW cf_Ledger_acts S_Ledger.length S_Ledger S_Ledger 0 [(0, zR (some 0))] [] μ 0 0 (F_Ledger_acts μ) := by
  unfold F_Ledger_acts
  refine AW.aload_n (i := 0) (a := 0) (by decide +kernel) rfl (?_ : AW _ _ _ _ 1 _ _ _ _ _ _)
  refine AW.getR (idx := 29) (ci := 8) (k := 3) (r := 0) (by decide +kernel) rfl rfl rfl (?_ : AW _ _ _ _ 4 _ _ _ _ _ _)
  refine AW.getI (idx := 90) (ci := 2) (k := 1) (r := 11) (by decide +kernel) rfl rfl rfl (?_ : AW _ _ _ _ 7 _ _ _ _ _ _)
  refine AW.istoreL_n (i := 1) (L' := fun x1 => [(1, zI x1), (0, zR (some 0))]) (by decide +kernel) (by decide) (fun _ => rfl) (fun x1 => (?_ : AW _ _ _ _ 8 _ _ _ _ _ _))
  refine AW.aload_n (i := 0) (a := 0) (by decide +kernel) rfl (?_ : AW _ _ _ _ 9 _ _ _ _ _ _)
  refine AW.getR (idx := 10) (ci := 8) (k := 0) (r := 0) (by decide +kernel) rfl rfl rfl (?_ : AW _ _ _ _ 12 _ _ _ _ _ _)
  refine AW.callVm (g := cf_Text_rewind) (Sg := S_Text) (pl := [1, 2]) (av := []) (b0 := 0) (ci := 6) (idx := 76) (n := 0) (st := []) (by decide +kernel) (fun l hl r hr => c_Text_rewind l hl  _ r hr) sb_44 rfl cal_Text_rewind rfl (zw4 zm_X8_76 zi_yX6_rewind zs_yX6_rewind zn_X6) rfl rfl ⟨by decide, by decide, by decide, by decide⟩ (Nat.le_of_ble_eq_true rfl) (Or.inl rfl) (fun v μ2 => AW.rV (?_ : AW _ _ _ _ 15 _ _ _ _ _ _) v)
  refine AW.aload_n (i := 0) (a := 0) (by decide +kernel) rfl (?_ : AW _ _ _ _ 16 _ _ _ _ _ _)
  refine AW.callVw (g := cf_Ledger_readActs) (av := []) (b0 := 0) (ci := 8) (idx := 99) (n := 0) (st := []) (by decide +kernel) (fun l hl r hr => c_Ledger_readActs l hl  _ r hr) S_Ledger_wf rfl cal_Ledger_readActs rfl (zw4 zm_X8_99 zi_yX8_readActs zs_yX8_readActs zn_X8) rfl rfl ⟨by decide, by decide, by decide, by decide⟩ (Nat.le_of_ble_eq_true rfl) (Or.inl rfl) (fun v μ4 => AW.kI (fun x5 => (?_ : AW _ _ _ _ 19 _ _ _ _ _ _)) v)
  refine AW.istore_n' (i := 2) (L' := [(2, zI x5), (1, zI x1), (0, zR (some 0))]) (by decide +kernel) (by decide) rfl (?_ : AW _ _ _ _ 20 _ _ _ _ _ _)
  refine AW.aload_n (i := 0) (a := 0) (by decide +kernel) rfl (?_ : AW _ _ _ _ 21 _ _ _ _ _ _)
  refine AW.getR (idx := 10) (ci := 8) (k := 0) (r := 0) (by decide +kernel) rfl rfl rfl (?_ : AW _ _ _ _ 24 _ _ _ _ _ _)
  refine AW.iconst (n := 0) (by decide +kernel) (?_ : AW _ _ _ _ 25 _ _ _ _ _ _)
  refine AW.putiL (idx := 68) (ci := 6) (k := 1) (r := 1) (by decide +kernel) rfl rfl rfl (fun μ6 => (?_ : AW _ _ _ _ 28 _ _ _ _ _ _))
  refine AW.iload_n (i := 2) (a := x5) (by decide +kernel) rfl (?_ : AW _ _ _ _ 29 _ _ _ _ _ _)
  refine AW.if_ne (off := 34) (tgt := 63) (by decide +kernel) (by decide) (fun _ => ?_) (fun _ => ?_)
  · refine AW.aload_n (i := 0) (a := 0) (by decide +kernel) rfl (?_ : AW _ _ _ _ 33 _ _ _ _ _ _)
    refine AW.getR (idx := 29) (ci := 8) (k := 3) (r := 0) (by decide +kernel) rfl rfl rfl (?_ : AW _ _ _ _ 36 _ _ _ _ _ _)
    refine AW.getI (idx := 90) (ci := 2) (k := 1) (r := 11) (by decide +kernel) rfl rfl rfl (?_ : AW _ _ _ _ 39 _ _ _ _ _ _)
    refine AW.iload_n (i := 1) (a := x1) (by decide +kernel) rfl (?_ : AW _ _ _ _ 40 _ _ _ _ _ _)
    refine AW.icmp_eq (off := 15) (tgt := 55) (by decide +kernel) (by decide) (fun _ => ?_) (fun _ => ?_)
    · refine AW.sub (L' := []) [] rfl ?_
      exact j_Ledger_acts_55 μ6
    · refine AW.aload_n (i := 0) (a := 0) (by decide +kernel) rfl (?_ : AW _ _ _ _ 44 _ _ _ _ _ _)
      refine AW.getR (idx := 29) (ci := 8) (k := 3) (r := 0) (by decide +kernel) rfl rfl rfl (?_ : AW _ _ _ _ 47 _ _ _ _ _ _)
      refine AW.iload_n (i := 1) (a := x1) (by decide +kernel) rfl (?_ : AW _ _ _ _ 48 _ _ _ _ _ _)
      refine AW.putiL (idx := 90) (ci := 2) (k := 1) (r := 11) (by decide +kernel) rfl rfl rfl (fun μ7 => (?_ : AW _ _ _ _ 51 _ _ _ _ _ _))
      refine AW.aload_n (i := 0) (a := 0) (by decide +kernel) rfl (?_ : AW _ _ _ _ 52 _ _ _ _ _ _)
      refine AW.callVw (g := cf_Ledger_goThroughAnew) (av := []) (b0 := 0) (ci := 8) (idx := 93) (n := 0) (st := []) (by decide +kernel) (fun l hl r hr => c_Ledger_goThroughAnew l hl  _ r hr) S_Ledger_wf rfl cal_Ledger_goThroughAnew rfl (zw4 zm_X8_93 zi_yX8_goThroughAnew zs_yX8_goThroughAnew zn_X8) rfl rfl ⟨by decide, by decide, by decide, by decide⟩ (Nat.le_of_ble_eq_true rfl) (Or.inl rfl) (fun v μ8 => AW.kV (?_ : AW _ _ _ _ 55 _ _ _ _ _ _) v)
      refine AW.sub (L' := []) [] rfl ?_
      exact j_Ledger_acts_55 μ8
  · refine AW.aload_n (i := 0) (a := 0) (by decide +kernel) rfl (?_ : AW _ _ _ _ 64 _ _ _ _ _ _)
    refine AW.getR (idx := 29) (ci := 8) (k := 3) (r := 0) (by decide +kernel) rfl rfl rfl (?_ : AW _ _ _ _ 67 _ _ _ _ _ _)
    refine AW.getI (idx := 90) (ci := 2) (k := 1) (r := 11) (by decide +kernel) rfl rfl rfl (?_ : AW _ _ _ _ 70 _ _ _ _ _ _)
    refine AW.iload_n (i := 1) (a := x1) (by decide +kernel) rfl (?_ : AW _ _ _ _ 71 _ _ _ _ _ _)
    refine AW.isub (by decide +kernel) (?_ : AW _ _ _ _ 72 _ _ _ _ _ _)
    exact AW.reti (by decide +kernel) rfl (by decide) (by decide)
theorem c_Ledger_acts (l : Launch) (hl : l.stackTraces = false) (μ : ZMem) (r : ZRes) (h : F_Ledger_acts μ = some r) : ZC l cf_Ledger_acts S_Ledger S_Ledger [zR (some 0)] μ r := ZC.of hl (by decide +kernel) rfl rfl zft_X8_ok (Nat.le_of_ble_eq_true rfl) h (w_Ledger_acts μ)
/-! WeirLedger.fault()I -/
def cf_Ledger_fault : ZCf := (yX8_fault, cX8_fault, 1, some .int, [], 2, 0, 0, zft_X8, none)
theorem cal_Ledger_fault : zCallee cf_Ledger_fault 0 := ⟨rfl, zc_yX8_fault, by decide, by decide, by decide +kernel⟩
def F_Ledger_fault (μ : ZMem) : Option ZRes := some (.inr (some (zI (μ 1 3))), μ)
set_option maxRecDepth 100000 in
theorem w_Ledger_fault (μ : ZMem) : AW cf_Ledger_fault S_Ledger.length S_Ledger S_Ledger 0 [(0, zR (some 0))] [] μ 0 0 (F_Ledger_fault μ) := by
  unfold F_Ledger_fault
  refine AW.aload_n (i := 0) (a := 0) (by decide +kernel) rfl (?_ : AW _ _ _ _ 1 _ _ _ _ _ _)
  refine AW.getR (idx := 10) (ci := 8) (k := 0) (r := 0) (by decide +kernel) rfl rfl rfl (?_ : AW _ _ _ _ 4 _ _ _ _ _ _)
  refine AW.getI (idx := 103) (ci := 6) (k := 3) (r := 1) (by decide +kernel) rfl rfl rfl (?_ : AW _ _ _ _ 7 _ _ _ _ _ _)
  exact AW.reti (by decide +kernel) rfl (by decide) (by decide)
theorem c_Ledger_fault (l : Launch) (hl : l.stackTraces = false) (μ : ZMem) (r : ZRes) (h : F_Ledger_fault μ = some r) : ZC l cf_Ledger_fault S_Ledger S_Ledger [zR (some 0)] μ r := ZC.of hl (by decide +kernel) rfl rfl zft_X8_ok (Nat.le_of_ble_eq_true rfl) h (w_Ledger_fault μ)
/-! WeirLedger.term(I)I -/
def cf_Ledger_term : ZCf := (yX8_term, cX8_term, 2, some .int, [], 10, 1, 6, zft_X8, none)
theorem cal_Ledger_term : zCallee cf_Ledger_term 1 := ⟨rfl, zc_yX8_term, by decide, by decide, by decide +kernel⟩
theorem thr_Ledger_term_10 : zThr cf_Ledger_term 10 106 108 zEn "java/util/NoSuchElementException" := zThr_of ztw_NoSuchElementException (by decide +kernel) (by decide +kernel) (by decide +kernel) (by decide +kernel) rfl (by decide)
def J_Ledger_term_10 (μ : ZMem) : Option ZRes := some (.inl "java/util/NoSuchElementException", μ)
set_option maxRecDepth 100000 in
theorem j_Ledger_term_10 (μ : ZMem) : AW cf_Ledger_term S_Ledger.length S_Ledger S_Ledger 10 [] [] μ 0 0 (J_Ledger_term_10 μ) := by
  unfold J_Ledger_term_10
  exact AW.throw thr_Ledger_term_10 (by decide) (by decide) (by decide)
def F_Ledger_term (a1 : Int) (μ : ZMem) : Option ZRes := if w32 a1 < 0 then (J_Ledger_term_10 μ) else (if w32 a1 < w32 7 then (zRd μ 4 7 a1 (fun x1 => some (.inr (some (zI x1)), μ))) else (J_Ledger_term_10 μ))
set_option maxRecDepth 100000 in
theorem w_Ledger_term (a1 : Int) (μ : ZMem) : AW cf_Ledger_term S_Ledger.length S_Ledger S_Ledger 0 [(0, zR (some 0)), (1, zI a1)] [] μ 0 0 (F_Ledger_term a1 μ) := by
  unfold F_Ledger_term
  refine AW.iload_n (i := 1) (a := a1) (by decide +kernel) rfl (?_ : AW _ _ _ _ 1 _ _ _ _ _ _)
  refine AW.if_lt (off := 9) (tgt := 10) (by decide +kernel) (by decide) (fun _ => ?_) (fun _ => ?_)
  · refine AW.sub (L' := []) [] rfl ?_
    exact j_Ledger_term_10 μ
  · refine AW.iload_n (i := 1) (a := a1) (by decide +kernel) rfl (?_ : AW _ _ _ _ 5 _ _ _ _ _ _)
    refine AW.bipush (n := 7) (by decide +kernel) (by decide +kernel) (?_ : AW _ _ _ _ 7 _ _ _ _ _ _)
    refine AW.icmp_lt (off := 11) (tgt := 18) (by decide +kernel) (by decide) (fun _ => ?_) (fun _ => ?_)
    · refine AW.aload_n (i := 0) (a := 0) (by decide +kernel) rfl (?_ : AW _ _ _ _ 19 _ _ _ _ _ _)
      refine AW.getR (idx := 19) (ci := 8) (k := 1) (r := 0) (by decide +kernel) rfl rfl rfl (?_ : AW _ _ _ _ 22 _ _ _ _ _ _)
      refine AW.getR (idx := 109) (ci := 1) (k := 0) (r := 3) (by decide +kernel) rfl rfl rfl (?_ : AW _ _ _ _ 25 _ _ _ _ _ _)
      refine AW.iload_n (i := 1) (a := a1) (by decide +kernel) rfl (?_ : AW _ _ _ _ 26 _ _ _ _ _ _)
      refine AW.iald (r := 4) (by decide +kernel) rfl (fun x1 => (?_ : AW _ _ _ _ 27 _ _ _ _ _ _))
      exact AW.reti (by decide +kernel) rfl (by decide) (by decide)
    · refine AW.sub (L' := []) [] rfl ?_
      exact j_Ledger_term_10 μ
theorem c_Ledger_term (l : Launch) (hl : l.stackTraces = false) (a1 : Int) (μ : ZMem) (r : ZRes) (h : F_Ledger_term a1 μ = some r) : ZC l cf_Ledger_term S_Ledger S_Ledger [zR (some 0), zI a1] μ r := ZC.of hl (by decide +kernel) rfl rfl zft_X8_ok (Nat.le_of_ble_eq_true rfl) h (w_Ledger_term a1 μ)
/-! WeirLedger.isInvestor(I)Z -/
def cf_Ledger_isInvestor : ZCf := (yX8_isInvestor, cX8_isInvestor, 2, some .boolean, [], 2, 0, 0, zft_X8, none)
theorem cal_Ledger_isInvestor : zCallee cf_Ledger_isInvestor 1 := ⟨rfl, zc_yX8_isInvestor, by decide, by decide, by decide +kernel⟩
def F_Ledger_isInvestor (a1 : Int) (μ : ZMem) : Option ZRes := if w32 a1 < 0 then (some (.inr (some (zI 0)), μ)) else (if w32 (μ 3 3) ≤ w32 a1 then (some (.inr (some (zI 0)), μ)) else (some (.inr (some (zI 1)), μ)))
set_option maxRecDepth 100000 in
theorem w_Ledger_isInvestor (a1 : Int) (μ : ZMem) : AW cf_Ledger_isInvestor S_Ledger.length S_Ledger S_Ledger 0 [(0, zR (some 0)), (1, zI a1)] [] μ 0 0 (F_Ledger_isInvestor a1 μ) := by
  unfold F_Ledger_isInvestor
  refine AW.iload_n (i := 1) (a := a1) (by decide +kernel) rfl (?_ : AW _ _ _ _ 1 _ _ _ _ _ _)
  refine AW.if_lt (off := 18) (tgt := 19) (by decide +kernel) (by decide) (fun _ => ?_) (fun _ => ?_)
  · refine AW.iconst (n := 0) (by decide +kernel) (?_ : AW _ _ _ _ 20 _ _ _ _ _ _)
    exact AW.retb1 (by decide +kernel) rfl (by decide) (by decide) (by decide)
  · refine AW.iload_n (i := 1) (a := a1) (by decide +kernel) rfl (?_ : AW _ _ _ _ 5 _ _ _ _ _ _)
    refine AW.aload_n (i := 0) (a := 0) (by decide +kernel) rfl (?_ : AW _ _ _ _ 6 _ _ _ _ _ _)
    refine AW.getR (idx := 19) (ci := 8) (k := 1) (r := 0) (by decide +kernel) rfl rfl rfl (?_ : AW _ _ _ _ 9 _ _ _ _ _ _)
    refine AW.getI (idx := 96) (ci := 1) (k := 3) (r := 3) (by decide +kernel) rfl rfl rfl (?_ : AW _ _ _ _ 12 _ _ _ _ _ _)
    refine AW.icmp_ge (off := 7) (tgt := 19) (by decide +kernel) (by decide) (fun _ => ?_) (fun _ => ?_)
    · refine AW.iconst (n := 0) (by decide +kernel) (?_ : AW _ _ _ _ 20 _ _ _ _ _ _)
      exact AW.retb1 (by decide +kernel) rfl (by decide) (by decide) (by decide)
    · refine AW.iconst (n := 1) (by decide +kernel) (?_ : AW _ _ _ _ 16 _ _ _ _ _ _)
      refine AW.goto (off := 4) (tgt := 20) (by decide +kernel) (by decide) ?_
      exact AW.retb1 (by decide +kernel) rfl (by decide) (by decide) (by decide)
theorem c_Ledger_isInvestor (l : Launch) (hl : l.stackTraces = false) (a1 : Int) (μ : ZMem) (r : ZRes) (h : F_Ledger_isInvestor a1 μ = some r) : ZC l cf_Ledger_isInvestor S_Ledger S_Ledger [zR (some 0), zI a1] μ r := ZC.of hl (by decide +kernel) rfl rfl zft_X8_ok (Nat.le_of_ble_eq_true rfl) h (w_Ledger_isInvestor a1 μ)
theorem sb_51 : zSub S_Ledger [20, 21, 22, 23, 24, 25, 26, 27, 28] S_Register2 := ⟨rfl, by decide +kernel, by decide +kernel, rfl⟩
/-! WeirLedger.investor(II)J -/
def cf_Ledger_investor : ZCf := (yX8_investor, cX8_investor, 3, some .long, [], 10, 1, 6, zft_X8, none)
theorem cal_Ledger_investor : zCallee cf_Ledger_investor 2 := ⟨rfl, zc_yX8_investor, by decide, by decide, by decide +kernel⟩
theorem thr_Ledger_investor_8 : zThr cf_Ledger_investor 8 117 119 zEn "java/lang/IndexOutOfBoundsException" := zThr_of ztw_IndexOutOfBoundsException (by decide +kernel) (by decide +kernel) (by decide +kernel) (by decide +kernel) rfl (by decide)
theorem thr_Ledger_investor_144 : zThr cf_Ledger_investor 144 106 108 zEn "java/util/NoSuchElementException" := zThr_of ztw_NoSuchElementException (by decide +kernel) (by decide +kernel) (by decide +kernel) (by decide +kernel) rfl (by decide)
def F_Ledger_investor (a1 : Int) (a2 : Int) (μ : ZMem) : Option ZRes := zC (F_Ledger_isInvestor a1 μ) (zkI (fun x2 μ1 => if w32 x2 = 0 then (some (.inl "java/lang/IndexOutOfBoundsException", μ1)) else (if w32 a2 = 0 then (zRd μ1 21 6 a1 (fun x4 => some (.inr (some (zJ (w32 x4))), μ1))) else (if w32 a2 = 1 then (zRd μ1 22 6 a1 (fun x6 => some (.inr (some (zJ (w32 x6))), μ1))) else (if w32 a2 = 2 then (zRd μ1 23 6 a1 (fun x8 => some (.inr (some (zJ (w32 x8))), μ1))) else (if w32 a2 = 3 then (zRd μ1 24 6 a1 (fun x10 => some (.inr (some (zJ x10)), μ1))) else (if w32 a2 = 4 then (zCm [20, 21, 22, 23, 24, 25, 26, 27, 28] μ1 (F_Register_weightOf a1 (zVw [20, 21, 22, 23, 24, 25, 26, 27, 28] μ1)) (zkI (fun x13 μ12 => some (.inr (some (zJ (w32 x13))), μ12))) zX0) else (if w32 a2 = 5 then (zCm [20, 21, 22, 23, 24, 25, 26, 27, 28] μ1 (F_Register_hasFailed a1 (zVw [20, 21, 22, 23, 24, 25, 26, 27, 28] μ1)) (zkI (fun x16 μ15 => if w32 x16 = 0 then (some (.inr (some (zJ 0)), μ15)) else (some (.inr (some (zJ 1)), μ15)))) zX0) else (some (.inl "java/util/NoSuchElementException", μ1)))))))))) zX0
set_option maxRecDepth 100000 in
theorem w_Ledger_investor (a1 : Int) (a2 : Int) (μ : ZMem) : AW cf_Ledger_investor S_Ledger.length S_Ledger S_Ledger 0 [(0, zR (some 0)), (1, zI a1), (2, zI a2)] [] μ 0 0 (F_Ledger_investor a1 a2 μ) := by
  unfold F_Ledger_investor
  refine AW.aload_n (i := 0) (a := 0) (by decide +kernel) rfl (?_ : AW _ _ _ _ 1 _ _ _ _ _ _)
  refine AW.iload_n (i := 1) (a := a1) (by decide +kernel) rfl (?_ : AW _ _ _ _ 2 _ _ _ _ _ _)
  refine AW.callVw (g := cf_Ledger_isInvestor) (av := [zI a1]) (b0 := 0) (ci := 8) (idx := 113) (n := 1) (st := []) (by decide +kernel) (fun l hl r hr => c_Ledger_isInvestor l hl a1 _ r hr) S_Ledger_wf rfl cal_Ledger_isInvestor rfl (zw4 zm_X8_113 zi_yX8_isInvestor zs_yX8_isInvestor zn_X8) rfl rfl ⟨by decide, by decide, by decide, by decide⟩ (Nat.le_of_ble_eq_true rfl) (Or.inl rfl) (fun v μ1 => AW.kI (fun x2 => (?_ : AW _ _ _ _ 5 _ _ _ _ _ _)) v)
  refine AW.if_ne (off := 11) (tgt := 16) (by decide +kernel) (by decide) (fun _ => ?_) (fun _ => ?_)
  · exact AW.throw thr_Ledger_investor_8 (by decide) (by decide) (by decide)
  · refine AW.iload_n (i := 2) (a := a2) (by decide +kernel) rfl (?_ : AW _ _ _ _ 17 _ _ _ _ _ _)
    refine AW.tswC (dflt := 127) (lo := 0) (hi := 5) (offs := #[39, 53, 67, 81, 94, 107]) (len := 39) (k := 0) (off := 39) (tgt := 56) (by decide +kernel) (by decide) (by decide) rfl (by decide) (fun _ => ?_) (fun h3 => ?_)
    · refine AW.aload_n (i := 0) (a := 0) (by decide +kernel) rfl (?_ : AW _ _ _ _ 57 _ _ _ _ _ _)
      refine AW.getR (idx := 38) (ci := 8) (k := 4) (r := 0) (by decide +kernel) rfl rfl rfl (?_ : AW _ _ _ _ 60 _ _ _ _ _ _)
      refine AW.getR (idx := 120) (ci := 5) (k := 1) (r := 13) (by decide +kernel) rfl rfl rfl (?_ : AW _ _ _ _ 63 _ _ _ _ _ _)
      refine AW.getR (idx := 124) (ci := 4) (k := 0) (r := 20) (by decide +kernel) rfl rfl rfl (?_ : AW _ _ _ _ 66 _ _ _ _ _ _)
      refine AW.iload_n (i := 1) (a := a1) (by decide +kernel) rfl (?_ : AW _ _ _ _ 67 _ _ _ _ _ _)
      refine AW.iald (r := 21) (by decide +kernel) rfl (fun x4 => (?_ : AW _ _ _ _ 68 _ _ _ _ _ _))
      refine AW.i2l (by decide +kernel) (?_ : AW _ _ _ _ 69 _ _ _ _ _ _)
      exact AW.retl (by decide +kernel) rfl (by decide) (by decide)
    refine AW.tswC (dflt := 127) (lo := 0) (hi := 5) (offs := #[39, 53, 67, 81, 94, 107]) (len := 39) (k := 1) (off := 53) (tgt := 70) (by decide +kernel) (by decide) (by decide) rfl (by decide) (fun _ => ?_) (fun h5 => ?_)
    · refine AW.aload_n (i := 0) (a := 0) (by decide +kernel) rfl (?_ : AW _ _ _ _ 71 _ _ _ _ _ _)
      refine AW.getR (idx := 38) (ci := 8) (k := 4) (r := 0) (by decide +kernel) rfl rfl rfl (?_ : AW _ _ _ _ 74 _ _ _ _ _ _)
      refine AW.getR (idx := 120) (ci := 5) (k := 1) (r := 13) (by decide +kernel) rfl rfl rfl (?_ : AW _ _ _ _ 77 _ _ _ _ _ _)
      refine AW.getR (idx := 129) (ci := 4) (k := 1) (r := 20) (by decide +kernel) rfl rfl rfl (?_ : AW _ _ _ _ 80 _ _ _ _ _ _)
      refine AW.iload_n (i := 1) (a := a1) (by decide +kernel) rfl (?_ : AW _ _ _ _ 81 _ _ _ _ _ _)
      refine AW.iald (r := 22) (by decide +kernel) rfl (fun x6 => (?_ : AW _ _ _ _ 82 _ _ _ _ _ _))
      refine AW.i2l (by decide +kernel) (?_ : AW _ _ _ _ 83 _ _ _ _ _ _)
      exact AW.retl (by decide +kernel) rfl (by decide) (by decide)
    refine AW.tswC (dflt := 127) (lo := 0) (hi := 5) (offs := #[39, 53, 67, 81, 94, 107]) (len := 39) (k := 2) (off := 67) (tgt := 84) (by decide +kernel) (by decide) (by decide) rfl (by decide) (fun _ => ?_) (fun h7 => ?_)
    · refine AW.aload_n (i := 0) (a := 0) (by decide +kernel) rfl (?_ : AW _ _ _ _ 85 _ _ _ _ _ _)
      refine AW.getR (idx := 38) (ci := 8) (k := 4) (r := 0) (by decide +kernel) rfl rfl rfl (?_ : AW _ _ _ _ 88 _ _ _ _ _ _)
      refine AW.getR (idx := 120) (ci := 5) (k := 1) (r := 13) (by decide +kernel) rfl rfl rfl (?_ : AW _ _ _ _ 91 _ _ _ _ _ _)
      refine AW.getR (idx := 132) (ci := 4) (k := 2) (r := 20) (by decide +kernel) rfl rfl rfl (?_ : AW _ _ _ _ 94 _ _ _ _ _ _)
      refine AW.iload_n (i := 1) (a := a1) (by decide +kernel) rfl (?_ : AW _ _ _ _ 95 _ _ _ _ _ _)
      refine AW.iald (r := 23) (by decide +kernel) rfl (fun x8 => (?_ : AW _ _ _ _ 96 _ _ _ _ _ _))
      refine AW.i2l (by decide +kernel) (?_ : AW _ _ _ _ 97 _ _ _ _ _ _)
      exact AW.retl (by decide +kernel) rfl (by decide) (by decide)
    refine AW.tswC (dflt := 127) (lo := 0) (hi := 5) (offs := #[39, 53, 67, 81, 94, 107]) (len := 39) (k := 3) (off := 81) (tgt := 98) (by decide +kernel) (by decide) (by decide) rfl (by decide) (fun _ => ?_) (fun h9 => ?_)
    · refine AW.aload_n (i := 0) (a := 0) (by decide +kernel) rfl (?_ : AW _ _ _ _ 99 _ _ _ _ _ _)
      refine AW.getR (idx := 38) (ci := 8) (k := 4) (r := 0) (by decide +kernel) rfl rfl rfl (?_ : AW _ _ _ _ 102 _ _ _ _ _ _)
      refine AW.getR (idx := 120) (ci := 5) (k := 1) (r := 13) (by decide +kernel) rfl rfl rfl (?_ : AW _ _ _ _ 105 _ _ _ _ _ _)
      refine AW.getR (idx := 135) (ci := 4) (k := 3) (r := 20) (by decide +kernel) rfl rfl rfl (?_ : AW _ _ _ _ 108 _ _ _ _ _ _)
      refine AW.iload_n (i := 1) (a := a1) (by decide +kernel) rfl (?_ : AW _ _ _ _ 109 _ _ _ _ _ _)
      refine AW.lald (r := 24) (by decide +kernel) rfl (fun x10 => (?_ : AW _ _ _ _ 110 _ _ _ _ _ _))
      exact AW.retl (by decide +kernel) rfl (by decide) (by decide)
    refine AW.tswC (dflt := 127) (lo := 0) (hi := 5) (offs := #[39, 53, 67, 81, 94, 107]) (len := 39) (k := 4) (off := 94) (tgt := 111) (by decide +kernel) (by decide) (by decide) rfl (by decide) (fun _ => ?_) (fun h11 => ?_)
    · refine AW.aload_n (i := 0) (a := 0) (by decide +kernel) rfl (?_ : AW _ _ _ _ 112 _ _ _ _ _ _)
      refine AW.getR (idx := 38) (ci := 8) (k := 4) (r := 0) (by decide +kernel) rfl rfl rfl (?_ : AW _ _ _ _ 115 _ _ _ _ _ _)
      refine AW.getR (idx := 120) (ci := 5) (k := 1) (r := 13) (by decide +kernel) rfl rfl rfl (?_ : AW _ _ _ _ 118 _ _ _ _ _ _)
      refine AW.iload_n (i := 1) (a := a1) (by decide +kernel) rfl (?_ : AW _ _ _ _ 119 _ _ _ _ _ _)
      refine AW.callVm (g := cf_Register_weightOf) (Sg := S_Register2) (pl := [20, 21, 22, 23, 24, 25, 26, 27, 28]) (av := [zI a1]) (b0 := 0) (ci := 4) (idx := 139) (n := 1) (st := []) (by decide +kernel) (fun l hl r hr => c_Register_weightOf l hl a1 _ r hr) sb_51 rfl cal_Register_weightOf rfl (zw4 zm_X8_139 zi_yX4_weightOf zs_yX4_weightOf zn_X4) rfl rfl ⟨by decide, by decide, by decide, by decide⟩ (Nat.le_of_ble_eq_true rfl) (Or.inl rfl) (fun v μ12 => AW.rI (fun x13 => (?_ : AW _ _ _ _ 122 _ _ _ _ _ _)) v)
      refine AW.i2l (by decide +kernel) (?_ : AW _ _ _ _ 123 _ _ _ _ _ _)
      exact AW.retl (by decide +kernel) rfl (by decide) (by decide)
    refine AW.tswC (dflt := 127) (lo := 0) (hi := 5) (offs := #[39, 53, 67, 81, 94, 107]) (len := 39) (k := 5) (off := 107) (tgt := 124) (by decide +kernel) (by decide) (by decide) rfl (by decide) (fun _ => ?_) (fun h14 => ?_)
    · refine AW.aload_n (i := 0) (a := 0) (by decide +kernel) rfl (?_ : AW _ _ _ _ 125 _ _ _ _ _ _)
      refine AW.getR (idx := 38) (ci := 8) (k := 4) (r := 0) (by decide +kernel) rfl rfl rfl (?_ : AW _ _ _ _ 128 _ _ _ _ _ _)
      refine AW.getR (idx := 120) (ci := 5) (k := 1) (r := 13) (by decide +kernel) rfl rfl rfl (?_ : AW _ _ _ _ 131 _ _ _ _ _ _)
      refine AW.iload_n (i := 1) (a := a1) (by decide +kernel) rfl (?_ : AW _ _ _ _ 132 _ _ _ _ _ _)
      refine AW.callVm (g := cf_Register_hasFailed) (Sg := S_Register2) (pl := [20, 21, 22, 23, 24, 25, 26, 27, 28]) (av := [zI a1]) (b0 := 0) (ci := 4) (idx := 143) (n := 1) (st := []) (by decide +kernel) (fun l hl r hr => c_Register_hasFailed l hl a1 _ r hr) sb_51 rfl cal_Register_hasFailed rfl (zw4 zm_X8_143 zi_yX4_hasFailed zs_yX4_hasFailed zn_X4) rfl rfl ⟨by decide, by decide, by decide, by decide⟩ (Nat.le_of_ble_eq_true rfl) (Or.inl rfl) (fun v μ15 => AW.rI (fun x16 => (?_ : AW _ _ _ _ 135 _ _ _ _ _ _)) v)
      refine AW.if_eq (off := 7) (tgt := 142) (by decide +kernel) (by decide) (fun _ => ?_) (fun _ => ?_)
      · refine AW.lconst0 (by decide +kernel) (?_ : AW _ _ _ _ 143 _ _ _ _ _ _)
        exact AW.retl (by decide +kernel) rfl (by decide) (by decide)
      · refine AW.lconst1 (by decide +kernel) (?_ : AW _ _ _ _ 139 _ _ _ _ _ _)
        refine AW.goto (off := 4) (tgt := 143) (by decide +kernel) (by decide) ?_
        exact AW.retl (by decide +kernel) rfl (by decide) (by decide)
    refine AW.tswD (dflt := 127) (lo := 0) (hi := 5) (offs := #[39, 53, 67, 81, 94, 107]) (len := 39) (tgt := 144) (by decide +kernel) (by omega) (by decide) ?_
    exact AW.throw thr_Ledger_investor_144 (by decide) (by decide) (by decide)
theorem c_Ledger_investor (l : Launch) (hl : l.stackTraces = false) (a1 : Int) (a2 : Int) (μ : ZMem) (r : ZRes) (h : F_Ledger_investor a1 a2 μ = some r) : ZC l cf_Ledger_investor S_Ledger S_Ledger [zR (some 0), zI a1, zI a2] μ r := ZC.of hl (by decide +kernel) rfl rfl zft_X8_ok (Nat.le_of_ble_eq_true rfl) h (w_Ledger_investor a1 a2 μ)
/-! WeirLedger.isDeal(I)Z -/
def cf_Ledger_isDeal : ZCf := (yX8_isDeal, cX8_isDeal, 2, some .boolean, [], 2, 0, 0, zft_X8, none)
theorem cal_Ledger_isDeal : zCallee cf_Ledger_isDeal 1 := ⟨rfl, zc_yX8_isDeal, by decide, by decide, by decide +kernel⟩
def F_Ledger_isDeal (a1 : Int) (μ : ZMem) : Option ZRes := if w32 a1 < 0 then (some (.inr (some (zI 0)), μ)) else (if w32 (μ 3 4) ≤ w32 a1 then (some (.inr (some (zI 0)), μ)) else (some (.inr (some (zI 1)), μ)))
set_option maxRecDepth 100000 in
theorem w_Ledger_isDeal (a1 : Int) (μ : ZMem) : AW cf_Ledger_isDeal S_Ledger.length S_Ledger S_Ledger 0 [(0, zR (some 0)), (1, zI a1)] [] μ 0 0 (F_Ledger_isDeal a1 μ) := by
  unfold F_Ledger_isDeal
  refine AW.iload_n (i := 1) (a := a1) (by decide +kernel) rfl (?_ : AW _ _ _ _ 1 _ _ _ _ _ _)
  refine AW.if_lt (off := 18) (tgt := 19) (by decide +kernel) (by decide) (fun _ => ?_) (fun _ => ?_)
  · refine AW.iconst (n := 0) (by decide +kernel) (?_ : AW _ _ _ _ 20 _ _ _ _ _ _)
    exact AW.retb1 (by decide +kernel) rfl (by decide) (by decide) (by decide)
  · refine AW.iload_n (i := 1) (a := a1) (by decide +kernel) rfl (?_ : AW _ _ _ _ 5 _ _ _ _ _ _)
    refine AW.aload_n (i := 0) (a := 0) (by decide +kernel) rfl (?_ : AW _ _ _ _ 6 _ _ _ _ _ _)
    refine AW.getR (idx := 19) (ci := 8) (k := 1) (r := 0) (by decide +kernel) rfl rfl rfl (?_ : AW _ _ _ _ 9 _ _ _ _ _ _)
    refine AW.getI (idx := 306) (ci := 1) (k := 4) (r := 3) (by decide +kernel) rfl rfl rfl (?_ : AW _ _ _ _ 12 _ _ _ _ _ _)
    refine AW.icmp_ge (off := 7) (tgt := 19) (by decide +kernel) (by decide) (fun _ => ?_) (fun _ => ?_)
    · refine AW.iconst (n := 0) (by decide +kernel) (?_ : AW _ _ _ _ 20 _ _ _ _ _ _)
      exact AW.retb1 (by decide +kernel) rfl (by decide) (by decide) (by decide)
    · refine AW.iconst (n := 1) (by decide +kernel) (?_ : AW _ _ _ _ 16 _ _ _ _ _ _)
      refine AW.goto (off := 4) (tgt := 20) (by decide +kernel) (by decide) ?_
      exact AW.retb1 (by decide +kernel) rfl (by decide) (by decide) (by decide)
theorem c_Ledger_isDeal (l : Launch) (hl : l.stackTraces = false) (a1 : Int) (μ : ZMem) (r : ZRes) (h : F_Ledger_isDeal a1 μ = some r) : ZC l cf_Ledger_isDeal S_Ledger S_Ledger [zR (some 0), zI a1] μ r := ZC.of hl (by decide +kernel) rfl rfl zft_X8_ok (Nat.le_of_ble_eq_true rfl) h (w_Ledger_isDeal a1 μ)
/-! WeirLedger.deal(II)I -/
def cf_Ledger_deal : ZCf := (yX8_deal, cX8_deal, 3, some .int, [], 10, 1, 6, zft_X8, none)
theorem cal_Ledger_deal : zCallee cf_Ledger_deal 2 := ⟨rfl, zc_yX8_deal, by decide, by decide, by decide +kernel⟩
theorem thr_Ledger_deal_8 : zThr cf_Ledger_deal 8 117 119 zEn "java/lang/IndexOutOfBoundsException" := zThr_of ztw_IndexOutOfBoundsException (by decide +kernel) (by decide +kernel) (by decide +kernel) (by decide +kernel) rfl (by decide)
theorem thr_Ledger_deal_25 : zThr cf_Ledger_deal 25 106 108 zEn "java/util/NoSuchElementException" := zThr_of ztw_NoSuchElementException (by decide +kernel) (by decide +kernel) (by decide +kernel) (by decide +kernel) rfl (by decide)
def J_Ledger_deal_25 (μ : ZMem) : Option ZRes := some (.inl "java/util/NoSuchElementException", μ)
set_option maxRecDepth 100000 in
theorem j_Ledger_deal_25 (μ : ZMem) : AW cf_Ledger_deal S_Ledger.length S_Ledger S_Ledger 25 [] [] μ 0 0 (J_Ledger_deal_25 μ) := by
  unfold J_Ledger_deal_25
  exact AW.throw thr_Ledger_deal_25 (by decide) (by decide) (by decide)
def F_Ledger_deal (a1 : Int) (a2 : Int) (μ : ZMem) : Option ZRes := zC (F_Ledger_isDeal a1 μ) (zkI (fun x2 μ1 => if w32 x2 = 0 then (some (.inl "java/lang/IndexOutOfBoundsException", μ1)) else (if w32 a2 < 0 then (J_Ledger_deal_25 μ1) else (if w32 a2 ≤ w32 4 then (if w32 a2 = w32 4 then (zRd μ1 6 6 a1 (fun x3 => some (.inr (some (zI x3)), μ1))) else (zRd μ1 17 24 ((a1 * 4) + a2) (fun x4 => some (.inr (some (zI x4)), μ1)))) else (J_Ledger_deal_25 μ1))))) zX0
set_option maxRecDepth 100000 in
theorem w_Ledger_deal (a1 : Int) (a2 : Int) (μ : ZMem) : AW cf_Ledger_deal S_Ledger.length S_Ledger S_Ledger 0 [(0, zR (some 0)), (1, zI a1), (2, zI a2)] [] μ 0 0 (F_Ledger_deal a1 a2 μ) := by
  unfold F_Ledger_deal
  refine AW.aload_n (i := 0) (a := 0) (by decide +kernel) rfl (?_ : AW _ _ _ _ 1 _ _ _ _ _ _)
  refine AW.iload_n (i := 1) (a := a1) (by decide +kernel) rfl (?_ : AW _ _ _ _ 2 _ _ _ _ _ _)
  refine AW.callVw (g := cf_Ledger_isDeal) (av := [zI a1]) (b0 := 0) (ci := 8) (idx := 146) (n := 1) (st := []) (by decide +kernel) (fun l hl r hr => c_Ledger_isDeal l hl a1 _ r hr) S_Ledger_wf rfl cal_Ledger_isDeal rfl (zw4 zm_X8_146 zi_yX8_isDeal zs_yX8_isDeal zn_X8) rfl rfl ⟨by decide, by decide, by decide, by decide⟩ (Nat.le_of_ble_eq_true rfl) (Or.inl rfl) (fun v μ1 => AW.kI (fun x2 => (?_ : AW _ _ _ _ 5 _ _ _ _ _ _)) v)
  refine AW.if_ne (off := 11) (tgt := 16) (by decide +kernel) (by decide) (fun _ => ?_) (fun _ => ?_)
  · exact AW.throw thr_Ledger_deal_8 (by decide) (by decide) (by decide)
  · refine AW.iload_n (i := 2) (a := a2) (by decide +kernel) rfl (?_ : AW _ _ _ _ 17 _ _ _ _ _ _)
    refine AW.if_lt (off := 8) (tgt := 25) (by decide +kernel) (by decide) (fun _ => ?_) (fun _ => ?_)
    · refine AW.sub (L' := []) [] rfl ?_
      exact j_Ledger_deal_25 μ1
    · refine AW.iload_n (i := 2) (a := a2) (by decide +kernel) rfl (?_ : AW _ _ _ _ 21 _ _ _ _ _ _)
      refine AW.iconst (n := 4) (by decide +kernel) (?_ : AW _ _ _ _ 22 _ _ _ _ _ _)
      refine AW.icmp_le (off := 11) (tgt := 33) (by decide +kernel) (by decide) (fun _ => ?_) (fun _ => ?_)
      · refine AW.iload_n (i := 2) (a := a2) (by decide +kernel) rfl (?_ : AW _ _ _ _ 34 _ _ _ _ _ _)
        refine AW.iconst (n := 4) (by decide +kernel) (?_ : AW _ _ _ _ 35 _ _ _ _ _ _)
        refine AW.icmp_ne (off := 15) (tgt := 50) (by decide +kernel) (by decide) (fun _ => ?_) (fun _ => ?_)
        · refine AW.aload_n (i := 0) (a := 0) (by decide +kernel) rfl (?_ : AW _ _ _ _ 39 _ _ _ _ _ _)
          refine AW.getR (idx := 19) (ci := 8) (k := 1) (r := 0) (by decide +kernel) rfl rfl rfl (?_ : AW _ _ _ _ 42 _ _ _ _ _ _)
          refine AW.getR (idx := 149) (ci := 1) (k := 2) (r := 3) (by decide +kernel) rfl rfl rfl (?_ : AW _ _ _ _ 45 _ _ _ _ _ _)
          refine AW.iload_n (i := 1) (a := a1) (by decide +kernel) rfl (?_ : AW _ _ _ _ 46 _ _ _ _ _ _)
          refine AW.iald (r := 6) (by decide +kernel) rfl (fun x3 => (?_ : AW _ _ _ _ 47 _ _ _ _ _ _))
          refine AW.goto (off := 19) (tgt := 66) (by decide +kernel) (by decide) ?_
          exact AW.reti (by decide +kernel) rfl (by decide) (by decide)
        · refine AW.aload_n (i := 0) (a := 0) (by decide +kernel) rfl (?_ : AW _ _ _ _ 51 _ _ _ _ _ _)
          refine AW.getR (idx := 38) (ci := 8) (k := 4) (r := 0) (by decide +kernel) rfl rfl rfl (?_ : AW _ _ _ _ 54 _ _ _ _ _ _)
          refine AW.getR (idx := 152) (ci := 5) (k := 0) (r := 13) (by decide +kernel) rfl rfl rfl (?_ : AW _ _ _ _ 57 _ _ _ _ _ _)
          refine AW.getR (idx := 155) (ci := 0) (k := 2) (r := 14) (by decide +kernel) rfl rfl rfl (?_ : AW _ _ _ _ 60 _ _ _ _ _ _)
          refine AW.iload_n (i := 1) (a := a1) (by decide +kernel) rfl (?_ : AW _ _ _ _ 61 _ _ _ _ _ _)
          refine AW.iconst (n := 4) (by decide +kernel) (?_ : AW _ _ _ _ 62 _ _ _ _ _ _)
          refine AW.imul (by decide +kernel) (?_ : AW _ _ _ _ 63 _ _ _ _ _ _)
          refine AW.iload_n (i := 2) (a := a2) (by decide +kernel) rfl (?_ : AW _ _ _ _ 64 _ _ _ _ _ _)
          refine AW.iadd (by decide +kernel) (?_ : AW _ _ _ _ 65 _ _ _ _ _ _)
          refine AW.iald (r := 17) (by decide +kernel) rfl (fun x4 => (?_ : AW _ _ _ _ 66 _ _ _ _ _ _))
          exact AW.reti (by decide +kernel) rfl (by decide) (by decide)
      · refine AW.sub (L' := []) [] rfl ?_
        exact j_Ledger_deal_25 μ1
theorem c_Ledger_deal (l : Launch) (hl : l.stackTraces = false) (a1 : Int) (a2 : Int) (μ : ZMem) (r : ZRes) (h : F_Ledger_deal a1 a2 μ = some r) : ZC l cf_Ledger_deal S_Ledger S_Ledger [zR (some 0), zI a1, zI a2] μ r := ZC.of hl (by decide +kernel) rfl rfl zft_X8_ok (Nat.le_of_ble_eq_true rfl) h (w_Ledger_deal a1 a2 μ)
/-! WeirLedger.ladder(II)J -/
def cf_Ledger_ladder : ZCf := (yX8_ladder, cX8_ladder, 4, some .long, [], 10, 1, 6, zft_X8, none)
theorem cal_Ledger_ladder : zCallee cf_Ledger_ladder 2 := ⟨rfl, zc_yX8_ladder, by decide, by decide, by decide +kernel⟩
theorem thr_Ledger_ladder_36 : zThr cf_Ledger_ladder 36 106 108 zEn "java/util/NoSuchElementException" := zThr_of ztw_NoSuchElementException (by decide +kernel) (by decide +kernel) (by decide +kernel) (by decide +kernel) rfl (by decide)
theorem thr_Ledger_ladder_19 : zThr cf_Ledger_ladder 19 117 119 zEn "java/lang/IndexOutOfBoundsException" := zThr_of ztw_IndexOutOfBoundsException (by decide +kernel) (by decide +kernel) (by decide +kernel) (by decide +kernel) rfl (by decide)
def J_Ledger_ladder_36 (μ : ZMem) : Option ZRes := some (.inl "java/util/NoSuchElementException", μ)
set_option maxRecDepth 100000 in
theorem j_Ledger_ladder_36 (μ : ZMem) : AW cf_Ledger_ladder S_Ledger.length S_Ledger S_Ledger 36 [] [] μ 0 0 (J_Ledger_ladder_36 μ) := by
  unfold J_Ledger_ladder_36
  exact AW.throw thr_Ledger_ladder_36 (by decide) (by decide) (by decide)
def J_Ledger_ladder_66 (a2 : Int) (y0 : Int) (μ : ZMem) : Option ZRes := zRd μ 16 32 ((y0 * 4) + a2) (fun x1 => some (.inr (some (zJ x1)), μ))
set_option maxRecDepth 100000 in
theorem j_Ledger_ladder_66 (a2 : Int) (y0 : Int) (μ : ZMem) : AW cf_Ledger_ladder S_Ledger.length S_Ledger S_Ledger 66 [(0, zR (some 0)), (2, zI a2)] [zI y0] μ 0 0 (J_Ledger_ladder_66 a2 y0 μ) := by
  unfold J_Ledger_ladder_66
  refine AW.istore_n' (i := 3) (L' := [(3, zI y0), (0, zR (some 0)), (2, zI a2)]) (by decide +kernel) (by decide) rfl (?_ : AW _ _ _ _ 67 _ _ _ _ _ _)
  refine AW.aload_n (i := 0) (a := 0) (by decide +kernel) rfl (?_ : AW _ _ _ _ 68 _ _ _ _ _ _)
  refine AW.getR (idx := 38) (ci := 8) (k := 4) (r := 0) (by decide +kernel) rfl rfl rfl (?_ : AW _ _ _ _ 71 _ _ _ _ _ _)
  refine AW.getR (idx := 152) (ci := 5) (k := 0) (r := 13) (by decide +kernel) rfl rfl rfl (?_ : AW _ _ _ _ 74 _ _ _ _ _ _)
  refine AW.getR (idx := 158) (ci := 0) (k := 1) (r := 14) (by decide +kernel) rfl rfl rfl (?_ : AW _ _ _ _ 77 _ _ _ _ _ _)
  refine AW.iload_n (i := 3) (a := y0) (by decide +kernel) rfl (?_ : AW _ _ _ _ 78 _ _ _ _ _ _)
  refine AW.iconst (n := 4) (by decide +kernel) (?_ : AW _ _ _ _ 79 _ _ _ _ _ _)
  refine AW.imul (by decide +kernel) (?_ : AW _ _ _ _ 80 _ _ _ _ _ _)
  refine AW.iload_n (i := 2) (a := a2) (by decide +kernel) rfl (?_ : AW _ _ _ _ 81 _ _ _ _ _ _)
  refine AW.iadd (by decide +kernel) (?_ : AW _ _ _ _ 82 _ _ _ _ _ _)
  refine AW.lald (r := 16) (by decide +kernel) rfl (fun x1 => (?_ : AW _ _ _ _ 83 _ _ _ _ _ _))
  exact AW.retl (by decide +kernel) rfl (by decide) (by decide)
def J_Ledger_ladder_27 (a1 : Int) (a2 : Int) (μ : ZMem) : Option ZRes := if w32 a2 < 0 then (J_Ledger_ladder_36 μ) else (if w32 a2 < w32 4 then (if w32 a1 = w32 (-1) then (J_Ledger_ladder_66 a2 6 μ) else (if w32 a1 = w32 (-2) then (J_Ledger_ladder_66 a2 7 μ) else (J_Ledger_ladder_66 a2 a1 μ))) else (J_Ledger_ladder_36 μ))
set_option maxRecDepth 100000 in
theorem j_Ledger_ladder_27 (a1 : Int) (a2 : Int) (μ : ZMem) : AW cf_Ledger_ladder S_Ledger.length S_Ledger S_Ledger 27 [(0, zR (some 0)), (1, zI a1), (2, zI a2)] [] μ 0 0 (J_Ledger_ladder_27 a1 a2 μ) := by
  unfold J_Ledger_ladder_27
  refine AW.iload_n (i := 2) (a := a2) (by decide +kernel) rfl (?_ : AW _ _ _ _ 28 _ _ _ _ _ _)
  refine AW.if_lt (off := 8) (tgt := 36) (by decide +kernel) (by decide) (fun _ => ?_) (fun _ => ?_)
  · refine AW.sub (L' := []) [] rfl ?_
    exact j_Ledger_ladder_36 μ
  · refine AW.iload_n (i := 2) (a := a2) (by decide +kernel) rfl (?_ : AW _ _ _ _ 32 _ _ _ _ _ _)
    refine AW.iconst (n := 4) (by decide +kernel) (?_ : AW _ _ _ _ 33 _ _ _ _ _ _)
    refine AW.icmp_lt (off := 11) (tgt := 44) (by decide +kernel) (by decide) (fun _ => ?_) (fun _ => ?_)
    · refine AW.iload_n (i := 1) (a := a1) (by decide +kernel) rfl (?_ : AW _ _ _ _ 45 _ _ _ _ _ _)
      refine AW.iconst (n := -1) (by decide +kernel) (?_ : AW _ _ _ _ 46 _ _ _ _ _ _)
      refine AW.icmp_ne (off := 8) (tgt := 54) (by decide +kernel) (by decide) (fun _ => ?_) (fun _ => ?_)
      · refine AW.bipush (n := 6) (by decide +kernel) (by decide +kernel) (?_ : AW _ _ _ _ 51 _ _ _ _ _ _)
        refine AW.goto (off := 15) (tgt := 66) (by decide +kernel) (by decide) ?_
        refine AW.sub (L' := [(0, zR (some 0)), (2, zI a2)]) [0, 2] rfl ?_
        exact j_Ledger_ladder_66 a2 6 μ
      · refine AW.iload_n (i := 1) (a := a1) (by decide +kernel) rfl (?_ : AW _ _ _ _ 55 _ _ _ _ _ _)
        refine AW.bipush (n := -2) (by decide +kernel) (by decide +kernel) (?_ : AW _ _ _ _ 57 _ _ _ _ _ _)
        refine AW.icmp_ne (off := 8) (tgt := 65) (by decide +kernel) (by decide) (fun _ => ?_) (fun _ => ?_)
        · refine AW.bipush (n := 7) (by decide +kernel) (by decide +kernel) (?_ : AW _ _ _ _ 62 _ _ _ _ _ _)
          refine AW.goto (off := 4) (tgt := 66) (by decide +kernel) (by decide) ?_
          refine AW.sub (L' := [(0, zR (some 0)), (2, zI a2)]) [0, 2] rfl ?_
          exact j_Ledger_ladder_66 a2 7 μ
        · refine AW.iload_n (i := 1) (a := a1) (by decide +kernel) rfl (?_ : AW _ _ _ _ 66 _ _ _ _ _ _)
          refine AW.sub (L' := [(0, zR (some 0)), (2, zI a2)]) [0, 2] rfl ?_
          exact j_Ledger_ladder_66 a2 a1 μ
    · refine AW.sub (L' := []) [] rfl ?_
      exact j_Ledger_ladder_36 μ
def F_Ledger_ladder (a1 : Int) (a2 : Int) (μ : ZMem) : Option ZRes := if w32 a1 = w32 (-1) then (J_Ledger_ladder_27 a1 a2 μ) else (if w32 a1 = w32 (-2) then (J_Ledger_ladder_27 a1 a2 μ) else (zC (F_Ledger_isDeal a1 μ) (zkI (fun x3 μ2 => if w32 x3 = 0 then (some (.inl "java/lang/IndexOutOfBoundsException", μ2)) else (J_Ledger_ladder_27 a1 a2 μ2))) zX0))
set_option maxRecDepth 100000 in
theorem w_Ledger_ladder (a1 : Int) (a2 : Int) (μ : ZMem) : AW cf_Ledger_ladder S_Ledger.length S_Ledger S_Ledger 0 [(0, zR (some 0)), (1, zI a1), (2, zI a2)] [] μ 0 0 (F_Ledger_ladder a1 a2 μ) := by
  unfold F_Ledger_ladder
  refine AW.iload_n (i := 1) (a := a1) (by decide +kernel) rfl (?_ : AW _ _ _ _ 1 _ _ _ _ _ _)
  refine AW.iconst (n := -1) (by decide +kernel) (?_ : AW _ _ _ _ 2 _ _ _ _ _ _)
  refine AW.icmp_eq (off := 25) (tgt := 27) (by decide +kernel) (by decide) (fun _ => ?_) (fun _ => ?_)
  · exact j_Ledger_ladder_27 a1 a2 μ
  · refine AW.iload_n (i := 1) (a := a1) (by decide +kernel) rfl (?_ : AW _ _ _ _ 6 _ _ _ _ _ _)
    refine AW.bipush (n := -2) (by decide +kernel) (by decide +kernel) (?_ : AW _ _ _ _ 8 _ _ _ _ _ _)
    refine AW.icmp_eq (off := 19) (tgt := 27) (by decide +kernel) (by decide) (fun _ => ?_) (fun _ => ?_)
    · exact j_Ledger_ladder_27 a1 a2 μ
    · refine AW.aload_n (i := 0) (a := 0) (by decide +kernel) rfl (?_ : AW _ _ _ _ 12 _ _ _ _ _ _)
      refine AW.iload_n (i := 1) (a := a1) (by decide +kernel) rfl (?_ : AW _ _ _ _ 13 _ _ _ _ _ _)
      refine AW.callVw (g := cf_Ledger_isDeal) (av := [zI a1]) (b0 := 0) (ci := 8) (idx := 146) (n := 1) (st := []) (by decide +kernel) (fun l hl r hr => c_Ledger_isDeal l hl a1 _ r hr) S_Ledger_wf rfl cal_Ledger_isDeal rfl (zw4 zm_X8_146 zi_yX8_isDeal zs_yX8_isDeal zn_X8) rfl rfl ⟨by decide, by decide, by decide, by decide⟩ (Nat.le_of_ble_eq_true rfl) (Or.inl rfl) (fun v μ2 => AW.kI (fun x3 => (?_ : AW _ _ _ _ 16 _ _ _ _ _ _)) v)
      refine AW.if_ne (off := 11) (tgt := 27) (by decide +kernel) (by decide) (fun _ => ?_) (fun _ => ?_)
      · exact AW.throw thr_Ledger_ladder_19 (by decide) (by decide) (by decide)
      · exact j_Ledger_ladder_27 a1 a2 μ2
theorem c_Ledger_ladder (l : Launch) (hl : l.stackTraces = false) (a1 : Int) (a2 : Int) (μ : ZMem) (r : ZRes) (h : F_Ledger_ladder a1 a2 μ = some r) : ZC l cf_Ledger_ladder S_Ledger S_Ledger [zR (some 0), zI a1, zI a2] μ r := ZC.of hl (by decide +kernel) rfl rfl zft_X8_ok (Nat.le_of_ble_eq_true rfl) h (w_Ledger_ladder a1 a2 μ)
/-! WeirLedger.manager(I)J -/
def cf_Ledger_manager : ZCf := (yX8_manager, cX8_manager, 2, some .long, [], 10, 1, 6, zft_X8, none)
theorem cal_Ledger_manager : zCallee cf_Ledger_manager 1 := ⟨rfl, zc_yX8_manager, by decide, by decide, by decide +kernel⟩
theorem thr_Ledger_manager_9 : zThr cf_Ledger_manager 9 106 108 zEn "java/util/NoSuchElementException" := zThr_of ztw_NoSuchElementException (by decide +kernel) (by decide +kernel) (by decide +kernel) (by decide +kernel) rfl (by decide)
def J_Ledger_manager_9 (μ : ZMem) : Option ZRes := some (.inl "java/util/NoSuchElementException", μ)
set_option maxRecDepth 100000 in
theorem j_Ledger_manager_9 (μ : ZMem) : AW cf_Ledger_manager S_Ledger.length S_Ledger S_Ledger 9 [] [] μ 0 0 (J_Ledger_manager_9 μ) := by
  unfold J_Ledger_manager_9
  exact AW.throw thr_Ledger_manager_9 (by decide) (by decide) (by decide)
def F_Ledger_manager (a1 : Int) (μ : ZMem) : Option ZRes := if w32 a1 < 0 then (J_Ledger_manager_9 μ) else (if w32 a1 < w32 4 then (zRd μ 18 4 a1 (fun x1 => some (.inr (some (zJ x1)), μ))) else (J_Ledger_manager_9 μ))
set_option maxRecDepth 100000 in
theorem w_Ledger_manager (a1 : Int) (μ : ZMem) : AW cf_Ledger_manager S_Ledger.length S_Ledger S_Ledger 0 [(0, zR (some 0)), (1, zI a1)] [] μ 0 0 (F_Ledger_manager a1 μ) := by
  unfold F_Ledger_manager
  refine AW.iload_n (i := 1) (a := a1) (by decide +kernel) rfl (?_ : AW _ _ _ _ 1 _ _ _ _ _ _)
  refine AW.if_lt (off := 8) (tgt := 9) (by decide +kernel) (by decide) (fun _ => ?_) (fun _ => ?_)
  · refine AW.sub (L' := []) [] rfl ?_
    exact j_Ledger_manager_9 μ
  · refine AW.iload_n (i := 1) (a := a1) (by decide +kernel) rfl (?_ : AW _ _ _ _ 5 _ _ _ _ _ _)
    refine AW.iconst (n := 4) (by decide +kernel) (?_ : AW _ _ _ _ 6 _ _ _ _ _ _)
    refine AW.icmp_lt (off := 11) (tgt := 17) (by decide +kernel) (by decide) (fun _ => ?_) (fun _ => ?_)
    · refine AW.aload_n (i := 0) (a := 0) (by decide +kernel) rfl (?_ : AW _ _ _ _ 18 _ _ _ _ _ _)
      refine AW.getR (idx := 38) (ci := 8) (k := 4) (r := 0) (by decide +kernel) rfl rfl rfl (?_ : AW _ _ _ _ 21 _ _ _ _ _ _)
      refine AW.getR (idx := 152) (ci := 5) (k := 0) (r := 13) (by decide +kernel) rfl rfl rfl (?_ : AW _ _ _ _ 24 _ _ _ _ _ _)
      refine AW.getR (idx := 161) (ci := 0) (k := 3) (r := 14) (by decide +kernel) rfl rfl rfl (?_ : AW _ _ _ _ 27 _ _ _ _ _ _)
      refine AW.iload_n (i := 1) (a := a1) (by decide +kernel) rfl (?_ : AW _ _ _ _ 28 _ _ _ _ _ _)
      refine AW.lald (r := 18) (by decide +kernel) rfl (fun x1 => (?_ : AW _ _ _ _ 29 _ _ _ _ _ _))
      exact AW.retl (by decide +kernel) rfl (by decide) (by decide)
    · refine AW.sub (L' := []) [] rfl ?_
      exact j_Ledger_manager_9 μ
theorem c_Ledger_manager (l : Launch) (hl : l.stackTraces = false) (a1 : Int) (μ : ZMem) (r : ZRes) (h : F_Ledger_manager a1 μ = some r) : ZC l cf_Ledger_manager S_Ledger S_Ledger [zR (some 0), zI a1] μ r := ZC.of hl (by decide +kernel) rfl rfl zft_X8_ok (Nat.le_of_ble_eq_true rfl) h (w_Ledger_manager a1 μ)
/-! WeirLedger.done(IIII)J -/
def cf_Ledger_done : ZCf := (yX8_done, cX8_done, 5, some .long, [], 10, 1, 6, zft_X8, none)
theorem cal_Ledger_done : zCallee cf_Ledger_done 4 := ⟨rfl, zc_yX8_done, by decide, by decide, by decide +kernel⟩
theorem thr_Ledger_done_15 : zThr cf_Ledger_done 15 168 170 zEn "java/lang/IllegalStateException" := zThr_of ztw_IllegalStateException (by decide +kernel) (by decide +kernel) (by decide +kernel) (by decide +kernel) rfl (by decide)
theorem thr_Ledger_done_35 : zThr cf_Ledger_done 35 317 319 zEn "java/lang/UnsupportedOperationException" := zThr_of ztw_UnsupportedOperationException (by decide +kernel) (by decide +kernel) (by decide +kernel) (by decide +kernel) rfl (by decide)
def F_Ledger_done (a1 : Int) (a2 : Int) (a3 : Int) (a4 : Int) (μ : ZMem) : Option ZRes := zCm [13, 14, 15, 16, 17, 18, 19, 20, 21, 22, 23, 24, 25, 26, 27, 28, 29, 30, 31] μ (F_State_canBe a1 a2 a3 a4 (zVw [13, 14, 15, 16, 17, 18, 19, 20, 21, 22, 23, 24, 25, 26, 27, 28, 29, 30, 31] μ)) (zkI (fun x2 μ1 => if w32 x2 = 0 then (some (.inl "java/lang/IllegalStateException", μ1)) else (if w32 (μ1 11 1) < w32 60 then (zC (F_Ledger_doAndWrite a1 a2 a3 a4 μ1) (zkJ (fun x4 μ3 => some (.inr (some (zJ x4)), μ3))) zX0) else (some (.inl "java/lang/UnsupportedOperationException", μ1))))) zX0
set_option maxRecDepth 100000 in
theorem w_Ledger_done (a1 : Int) (a2 : Int) (a3 : Int) (a4 : Int) (μ : ZMem) : AW cf_Ledger_done S_Ledger.length S_Ledger S_Ledger 0 [(0, zR (some 0)), (1, zI a1), (2, zI a2), (3, zI a3), (4, zI a4)] [] μ 0 0 (F_Ledger_done a1 a2 a3 a4 μ) := by
  unfold F_Ledger_done
  refine AW.aload_n (i := 0) (a := 0) (by decide +kernel) rfl (?_ : AW _ _ _ _ 1 _ _ _ _ _ _)
  refine AW.getR (idx := 38) (ci := 8) (k := 4) (r := 0) (by decide +kernel) rfl rfl rfl (?_ : AW _ _ _ _ 4 _ _ _ _ _ _)
  refine AW.iload_n (i := 1) (a := a1) (by decide +kernel) rfl (?_ : AW _ _ _ _ 5 _ _ _ _ _ _)
  refine AW.iload_n (i := 2) (a := a2) (by decide +kernel) rfl (?_ : AW _ _ _ _ 6 _ _ _ _ _ _)
  refine AW.iload_n (i := 3) (a := a3) (by decide +kernel) rfl (?_ : AW _ _ _ _ 7 _ _ _ _ _ _)
  refine AW.iload (i := 4) (a := a4) (by decide +kernel) rfl (?_ : AW _ _ _ _ 9 _ _ _ _ _ _)
  refine AW.callVm (g := cf_State_canBe) (Sg := S_State2) (pl := [13, 14, 15, 16, 17, 18, 19, 20, 21, 22, 23, 24, 25, 26, 27, 28, 29, 30, 31]) (av := [zI a1, zI a2, zI a3, zI a4]) (b0 := 0) (ci := 5) (idx := 313) (n := 4) (st := []) (by decide +kernel) (fun l hl r hr => c_State_canBe l hl a1 a2 a3 a4 _ r hr) sb_49 rfl cal_State_canBe rfl (zw4 zm_X8_313 zi_yX5_canBe zs_yX5_canBe zn_X5) rfl rfl ⟨by decide, by decide, by decide, by decide⟩ (Nat.le_of_ble_eq_true rfl) (Or.inl rfl) (fun v μ1 => AW.rI (fun x2 => (?_ : AW _ _ _ _ 12 _ _ _ _ _ _)) v)
  refine AW.if_ne (off := 11) (tgt := 23) (by decide +kernel) (by decide) (fun _ => ?_) (fun _ => ?_)
  · exact AW.throw thr_Ledger_done_15 (by decide) (by decide) (by decide)
  · refine AW.aload_n (i := 0) (a := 0) (by decide +kernel) rfl (?_ : AW _ _ _ _ 24 _ _ _ _ _ _)
    refine AW.getR (idx := 29) (ci := 8) (k := 3) (r := 0) (by decide +kernel) rfl rfl rfl (?_ : AW _ _ _ _ 27 _ _ _ _ _ _)
    refine AW.getI (idx := 90) (ci := 2) (k := 1) (r := 11) (by decide +kernel) rfl rfl rfl (?_ : AW _ _ _ _ 30 _ _ _ _ _ _)
    refine AW.bipush (n := 60) (by decide +kernel) (by decide +kernel) (?_ : AW _ _ _ _ 32 _ _ _ _ _ _)
    refine AW.icmp_lt (off := 11) (tgt := 43) (by decide +kernel) (by decide) (fun _ => ?_) (fun _ => ?_)
    · refine AW.aload_n (i := 0) (a := 0) (by decide +kernel) rfl (?_ : AW _ _ _ _ 44 _ _ _ _ _ _)
      refine AW.iload_n (i := 1) (a := a1) (by decide +kernel) rfl (?_ : AW _ _ _ _ 45 _ _ _ _ _ _)
      refine AW.iload_n (i := 2) (a := a2) (by decide +kernel) rfl (?_ : AW _ _ _ _ 46 _ _ _ _ _ _)
      refine AW.iload_n (i := 3) (a := a3) (by decide +kernel) rfl (?_ : AW _ _ _ _ 47 _ _ _ _ _ _)
      refine AW.iload (i := 4) (a := a4) (by decide +kernel) rfl (?_ : AW _ _ _ _ 49 _ _ _ _ _ _)
      refine AW.callVw (g := cf_Ledger_doAndWrite) (av := [zI a1, zI a2, zI a3, zI a4]) (b0 := 0) (ci := 8) (idx := 320) (n := 4) (st := []) (by decide +kernel) (fun l hl r hr => c_Ledger_doAndWrite l hl a1 a2 a3 a4 _ r hr) S_Ledger_wf rfl cal_Ledger_doAndWrite rfl (zw4 zm_X8_320 zi_yX8_doAndWrite zs_yX8_doAndWrite zn_X8) rfl rfl ⟨by decide, by decide, by decide, by decide⟩ (Nat.le_of_ble_eq_true rfl) (Or.inl rfl) (fun v μ3 => AW.kJ (fun x4 => (?_ : AW _ _ _ _ 52 _ _ _ _ _ _)) v)
      exact AW.retl (by decide +kernel) rfl (by decide) (by decide)
    · exact AW.throw thr_Ledger_done_35 (by decide) (by decide) (by decide)
theorem c_Ledger_done (l : Launch) (hl : l.stackTraces = false) (a1 : Int) (a2 : Int) (a3 : Int) (a4 : Int) (μ : ZMem) (r : ZRes) (h : F_Ledger_done a1 a2 a3 a4 μ = some r) : ZC l cf_Ledger_done S_Ledger S_Ledger [zR (some 0), zI a1, zI a2, zI a3, zI a4] μ r := ZC.of hl (by decide +kernel) rfl rfl zft_X8_ok (Nat.le_of_ble_eq_true rfl) h (w_Ledger_done a1 a2 a3 a4 μ)
/-! WeirLedger.call(II)I -/
def cf_Ledger_call : ZCf := (yX8_call, cX8_call, 3, some .int, [], 11, 1, 6, zft_X8, none)
theorem cal_Ledger_call : zCallee cf_Ledger_call 2 := ⟨rfl, zc_yX8_call, by decide, by decide, by decide +kernel⟩
theorem thr_Ledger_call_8 : zThr cf_Ledger_call 8 117 119 zEn "java/lang/IndexOutOfBoundsException" := zThr_of ztw_IndexOutOfBoundsException (by decide +kernel) (by decide +kernel) (by decide +kernel) (by decide +kernel) rfl (by decide)
theorem thr_Ledger_call_28 : zThr cf_Ledger_call 28 83 85 zEn "java/lang/IllegalArgumentException" := zThr_of ztw_IllegalArgumentException (by decide +kernel) (by decide +kernel) (by decide +kernel) (by decide +kernel) rfl (by decide)
def J_Ledger_call_28 (μ : ZMem) : Option ZRes := some (.inl "java/lang/IllegalArgumentException", μ)
set_option maxRecDepth 100000 in
theorem j_Ledger_call_28 (μ : ZMem) : AW cf_Ledger_call S_Ledger.length S_Ledger S_Ledger 28 [] [] μ 0 0 (J_Ledger_call_28 μ) := by
  unfold J_Ledger_call_28
  exact AW.throw thr_Ledger_call_28 (by decide) (by decide) (by decide)
def F_Ledger_call (a1 : Int) (a2 : Int) (μ : ZMem) : Option ZRes := zC (F_Ledger_isDeal a1 μ) (zkI (fun x2 μ1 => if w32 x2 = 0 then (some (.inl "java/lang/IndexOutOfBoundsException", μ1)) else (if w32 a2 < w32 1 then (J_Ledger_call_28 μ1) else (if w32 a2 ≤ w32 9999 then (zC (F_Ledger_done 0 a1 a2 (-1) μ1) (zkJ (fun x4 μ3 => some (.inr (some (zI x4)), μ3))) zXo) else (J_Ledger_call_28 μ1))))) zX0
set_option maxRecDepth 100000 in
theorem w_Ledger_call (a1 : Int) (a2 : Int) (μ : ZMem) : AW cf_Ledger_call S_Ledger.length S_Ledger S_Ledger 0 [(0, zR (some 0)), (1, zI a1), (2, zI a2)] [] μ 0 0 (F_Ledger_call a1 a2 μ) := by
  unfold F_Ledger_call
  refine AW.aload_n (i := 0) (a := 0) (by decide +kernel) rfl (?_ : AW _ _ _ _ 1 _ _ _ _ _ _)
  refine AW.iload_n (i := 1) (a := a1) (by decide +kernel) rfl (?_ : AW _ _ _ _ 2 _ _ _ _ _ _)
  refine AW.callVw (g := cf_Ledger_isDeal) (av := [zI a1]) (b0 := 0) (ci := 8) (idx := 146) (n := 1) (st := []) (by decide +kernel) (fun l hl r hr => c_Ledger_isDeal l hl a1 _ r hr) S_Ledger_wf rfl cal_Ledger_isDeal rfl (zw4 zm_X8_146 zi_yX8_isDeal zs_yX8_isDeal zn_X8) rfl rfl ⟨by decide, by decide, by decide, by decide⟩ (Nat.le_of_ble_eq_true rfl) (Or.inl rfl) (fun v μ1 => AW.kI (fun x2 => (?_ : AW _ _ _ _ 5 _ _ _ _ _ _)) v)
  refine AW.if_ne (off := 11) (tgt := 16) (by decide +kernel) (by decide) (fun _ => ?_) (fun _ => ?_)
  · exact AW.throw thr_Ledger_call_8 (by decide) (by decide) (by decide)
  · refine AW.iload_n (i := 2) (a := a2) (by decide +kernel) rfl (?_ : AW _ _ _ _ 17 _ _ _ _ _ _)
    refine AW.iconst (n := 1) (by decide +kernel) (?_ : AW _ _ _ _ 18 _ _ _ _ _ _)
    refine AW.icmp_lt (off := 10) (tgt := 28) (by decide +kernel) (by decide) (fun _ => ?_) (fun _ => ?_)
    · refine AW.sub (L' := []) [] rfl ?_
      exact j_Ledger_call_28 μ1
    · refine AW.iload_n (i := 2) (a := a2) (by decide +kernel) rfl (?_ : AW _ _ _ _ 22 _ _ _ _ _ _)
      refine AW.sipush (n := 9999) (by decide +kernel) (by decide +kernel) (?_ : AW _ _ _ _ 25 _ _ _ _ _ _)
      refine AW.icmp_le (off := 11) (tgt := 36) (by decide +kernel) (by decide) (fun _ => ?_) (fun _ => ?_)
      · refine AW.aload_n (i := 0) (a := 0) (by decide +kernel) rfl (?_ : AW _ _ _ _ 37 _ _ _ _ _ _)
        refine AW.iconst (n := 0) (by decide +kernel) (?_ : AW _ _ _ _ 38 _ _ _ _ _ _)
        refine AW.iload_n (i := 1) (a := a1) (by decide +kernel) rfl (?_ : AW _ _ _ _ 39 _ _ _ _ _ _)
        refine AW.iload_n (i := 2) (a := a2) (by decide +kernel) rfl (?_ : AW _ _ _ _ 40 _ _ _ _ _ _)
        refine AW.iconst (n := -1) (by decide +kernel) (?_ : AW _ _ _ _ 41 _ _ _ _ _ _)
        refine AW.callVw (g := cf_Ledger_done) (av := [zI 0, zI a1, zI a2, zI (-1)]) (b0 := 0) (ci := 8) (idx := 164) (n := 4) (st := []) (by decide +kernel) (fun l hl r hr => c_Ledger_done l hl 0 a1 a2 (-1) _ r hr) S_Ledger_wf rfl cal_Ledger_done rfl (zw4 zm_X8_164 zi_yX8_done zs_yX8_done zn_X8) rfl rfl ⟨by decide, by decide, by decide, by decide⟩ (Nat.le_of_ble_eq_true rfl) (Or.inr ⟨rfl, rfl, rfl⟩) (fun v μ3 => AW.kJ (fun x4 => (?_ : AW _ _ _ _ 44 _ _ _ _ _ _)) v)
        refine AW.l2i (by decide +kernel) (?_ : AW _ _ _ _ 45 _ _ _ _ _ _)
        exact AW.reti (by decide +kernel) rfl (by decide) (by decide)
      · refine AW.sub (L' := []) [] rfl ?_
        exact j_Ledger_call_28 μ1
theorem c_Ledger_call (l : Launch) (hl : l.stackTraces = false) (a1 : Int) (a2 : Int) (μ : ZMem) (r : ZRes) (h : F_Ledger_call a1 a2 μ = some r) : ZC l cf_Ledger_call S_Ledger S_Ledger [zR (some 0), zI a1, zI a2] μ r := ZC.of hl (by decide +kernel) rfl rfl zft_X8_ok (Nat.le_of_ble_eq_true rfl) h (w_Ledger_call a1 a2 μ)
/-! WeirLedger.sell(IIZ)I -/
def cf_Ledger_sell : ZCf := (yX8_sell, cX8_sell, 4, some .int, [], 11, 1, 6, zft_X8, none)
theorem cal_Ledger_sell : zCallee cf_Ledger_sell 3 := ⟨rfl, zc_yX8_sell, by decide, by decide, by decide +kernel⟩
theorem thr_Ledger_sell_8 : zThr cf_Ledger_sell 8 117 119 zEn "java/lang/IndexOutOfBoundsException" := zThr_of ztw_IndexOutOfBoundsException (by decide +kernel) (by decide +kernel) (by decide +kernel) (by decide +kernel) rfl (by decide)
theorem thr_Ledger_sell_27 : zThr cf_Ledger_sell 27 83 85 zEn "java/lang/IllegalArgumentException" := zThr_of ztw_IllegalArgumentException (by decide +kernel) (by decide +kernel) (by decide +kernel) (by decide +kernel) rfl (by decide)
def J_Ledger_sell_27 (μ : ZMem) : Option ZRes := some (.inl "java/lang/IllegalArgumentException", μ)
set_option maxRecDepth 100000 in
theorem j_Ledger_sell_27 (μ : ZMem) : AW cf_Ledger_sell S_Ledger.length S_Ledger S_Ledger 27 [] [] μ 0 0 (J_Ledger_sell_27 μ) := by
  unfold J_Ledger_sell_27
  exact AW.throw thr_Ledger_sell_27 (by decide) (by decide) (by decide)
def J_Ledger_sell_45 (a1 : Int) (a2 : Int) (y0 : Int) (μ : ZMem) : Option ZRes := zC (F_Ledger_done y0 a1 a2 (-1) μ) (zkJ (fun x4 μ3 => some (.inr (some (zI x4)), μ3))) zXo
set_option maxRecDepth 100000 in
theorem j_Ledger_sell_45 (a1 : Int) (a2 : Int) (y0 : Int) (μ : ZMem) : AW cf_Ledger_sell S_Ledger.length S_Ledger S_Ledger 45 [(1, zI a1), (2, zI a2)] [zI y0, zR (some 0)] μ 0 0 (J_Ledger_sell_45 a1 a2 y0 μ) := by
  unfold J_Ledger_sell_45
  refine AW.iload_n (i := 1) (a := a1) (by decide +kernel) rfl (?_ : AW _ _ _ _ 46 _ _ _ _ _ _)
  refine AW.iload_n (i := 2) (a := a2) (by decide +kernel) rfl (?_ : AW _ _ _ _ 47 _ _ _ _ _ _)
  refine AW.iconst (n := -1) (by decide +kernel) (?_ : AW _ _ _ _ 48 _ _ _ _ _ _)
  refine AW.callVw (g := cf_Ledger_done) (av := [zI y0, zI a1, zI a2, zI (-1)]) (b0 := 0) (ci := 8) (idx := 164) (n := 4) (st := []) (by decide +kernel) (fun l hl r hr => c_Ledger_done l hl y0 a1 a2 (-1) _ r hr) S_Ledger_wf rfl cal_Ledger_done rfl (zw4 zm_X8_164 zi_yX8_done zs_yX8_done zn_X8) rfl rfl ⟨by decide, by decide, by decide, by decide⟩ (Nat.le_of_ble_eq_true rfl) (Or.inr ⟨rfl, rfl, rfl⟩) (fun v μ3 => AW.kJ (fun x4 => (?_ : AW _ _ _ _ 51 _ _ _ _ _ _)) v)
  refine AW.l2i (by decide +kernel) (?_ : AW _ _ _ _ 52 _ _ _ _ _ _)
  exact AW.reti (by decide +kernel) rfl (by decide) (by decide)
def F_Ledger_sell (a1 : Int) (a2 : Int) (a3 : Int) (μ : ZMem) : Option ZRes := zC (F_Ledger_isDeal a1 μ) (zkI (fun x2 μ1 => if w32 x2 = 0 then (some (.inl "java/lang/IndexOutOfBoundsException", μ1)) else (if w32 a2 < 0 then (J_Ledger_sell_27 μ1) else (if w32 a2 ≤ w32 9999 then (if w32 a3 = 0 then (J_Ledger_sell_45 a1 a2 1 μ1) else (J_Ledger_sell_45 a1 a2 2 μ1)) else (J_Ledger_sell_27 μ1))))) zX0
set_option maxRecDepth 100000 in
theorem w_Ledger_sell (a1 : Int) (a2 : Int) (a3 : Int) (μ : ZMem) : AW cf_Ledger_sell S_Ledger.length S_Ledger S_Ledger 0 [(0, zR (some 0)), (1, zI a1), (2, zI a2), (3, zI a3)] [] μ 0 0 (F_Ledger_sell a1 a2 a3 μ) := by
  unfold F_Ledger_sell
  refine AW.aload_n (i := 0) (a := 0) (by decide +kernel) rfl (?_ : AW _ _ _ _ 1 _ _ _ _ _ _)
  refine AW.iload_n (i := 1) (a := a1) (by decide +kernel) rfl (?_ : AW _ _ _ _ 2 _ _ _ _ _ _)
  refine AW.callVw (g := cf_Ledger_isDeal) (av := [zI a1]) (b0 := 0) (ci := 8) (idx := 146) (n := 1) (st := []) (by decide +kernel) (fun l hl r hr => c_Ledger_isDeal l hl a1 _ r hr) S_Ledger_wf rfl cal_Ledger_isDeal rfl (zw4 zm_X8_146 zi_yX8_isDeal zs_yX8_isDeal zn_X8) rfl rfl ⟨by decide, by decide, by decide, by decide⟩ (Nat.le_of_ble_eq_true rfl) (Or.inl rfl) (fun v μ1 => AW.kI (fun x2 => (?_ : AW _ _ _ _ 5 _ _ _ _ _ _)) v)
  refine AW.if_ne (off := 11) (tgt := 16) (by decide +kernel) (by decide) (fun _ => ?_) (fun _ => ?_)
  · exact AW.throw thr_Ledger_sell_8 (by decide) (by decide) (by decide)
  · refine AW.iload_n (i := 2) (a := a2) (by decide +kernel) rfl (?_ : AW _ _ _ _ 17 _ _ _ _ _ _)
    refine AW.if_lt (off := 10) (tgt := 27) (by decide +kernel) (by decide) (fun _ => ?_) (fun _ => ?_)
    · refine AW.sub (L' := []) [] rfl ?_
      exact j_Ledger_sell_27 μ1
    · refine AW.iload_n (i := 2) (a := a2) (by decide +kernel) rfl (?_ : AW _ _ _ _ 21 _ _ _ _ _ _)
      refine AW.sipush (n := 9999) (by decide +kernel) (by decide +kernel) (?_ : AW _ _ _ _ 24 _ _ _ _ _ _)
      refine AW.icmp_le (off := 11) (tgt := 35) (by decide +kernel) (by decide) (fun _ => ?_) (fun _ => ?_)
      · refine AW.aload_n (i := 0) (a := 0) (by decide +kernel) rfl (?_ : AW _ _ _ _ 36 _ _ _ _ _ _)
        refine AW.iload_n (i := 3) (a := a3) (by decide +kernel) rfl (?_ : AW _ _ _ _ 37 _ _ _ _ _ _)
        refine AW.if_eq (off := 7) (tgt := 44) (by decide +kernel) (by decide) (fun _ => ?_) (fun _ => ?_)
        · refine AW.iconst (n := 1) (by decide +kernel) (?_ : AW _ _ _ _ 45 _ _ _ _ _ _)
          refine AW.sub (L' := [(1, zI a1), (2, zI a2)]) [1, 2] rfl ?_
          exact j_Ledger_sell_45 a1 a2 1 μ1
        · refine AW.iconst (n := 2) (by decide +kernel) (?_ : AW _ _ _ _ 41 _ _ _ _ _ _)
          refine AW.goto (off := 4) (tgt := 45) (by decide +kernel) (by decide) ?_
          refine AW.sub (L' := [(1, zI a1), (2, zI a2)]) [1, 2] rfl ?_
          exact j_Ledger_sell_45 a1 a2 2 μ1
      · refine AW.sub (L' := []) [] rfl ?_
        exact j_Ledger_sell_27 μ1
theorem c_Ledger_sell (l : Launch) (hl : l.stackTraces = false) (a1 : Int) (a2 : Int) (a3 : Int) (μ : ZMem) (r : ZRes) (h : F_Ledger_sell a1 a2 a3 μ = some r) : ZC l cf_Ledger_sell S_Ledger S_Ledger [zR (some 0), zI a1, zI a2, zI a3] μ r := ZC.of hl (by decide +kernel) rfl rfl zft_X8_ok (Nat.le_of_ble_eq_true rfl) h (w_Ledger_sell a1 a2 a3 μ)
/-! WeirLedger.mark(II)I -/
def cf_Ledger_mark : ZCf := (yX8_mark, cX8_mark, 3, some .int, [], 11, 1, 6, zft_X8, none)
theorem cal_Ledger_mark : zCallee cf_Ledger_mark 2 := ⟨rfl, zc_yX8_mark, by decide, by decide, by decide +kernel⟩
theorem thr_Ledger_mark_8 : zThr cf_Ledger_mark 8 117 119 zEn "java/lang/IndexOutOfBoundsException" := zThr_of ztw_IndexOutOfBoundsException (by decide +kernel) (by decide +kernel) (by decide +kernel) (by decide +kernel) rfl (by decide)
theorem thr_Ledger_mark_27 : zThr cf_Ledger_mark 27 83 85 zEn "java/lang/IllegalArgumentException" := zThr_of ztw_IllegalArgumentException (by decide +kernel) (by decide +kernel) (by decide +kernel) (by decide +kernel) rfl (by decide)
def J_Ledger_mark_27 (μ : ZMem) : Option ZRes := some (.inl "java/lang/IllegalArgumentException", μ)
set_option maxRecDepth 100000 in
theorem j_Ledger_mark_27 (μ : ZMem) : AW cf_Ledger_mark S_Ledger.length S_Ledger S_Ledger 27 [] [] μ 0 0 (J_Ledger_mark_27 μ) := by
  unfold J_Ledger_mark_27
  exact AW.throw thr_Ledger_mark_27 (by decide) (by decide) (by decide)
def F_Ledger_mark (a1 : Int) (a2 : Int) (μ : ZMem) : Option ZRes := zC (F_Ledger_isDeal a1 μ) (zkI (fun x2 μ1 => if w32 x2 = 0 then (some (.inl "java/lang/IndexOutOfBoundsException", μ1)) else (if w32 a2 < 0 then (J_Ledger_mark_27 μ1) else (if w32 a2 ≤ w32 9999 then (zC (F_Ledger_done 3 a1 a2 (-1) μ1) (zkJ (fun x4 μ3 => some (.inr (some (zI x4)), μ3))) zXo) else (J_Ledger_mark_27 μ1))))) zX0
set_option maxRecDepth 100000 in
theorem w_Ledger_mark (a1 : Int) (a2 : Int) (μ : ZMem) : AW cf_Ledger_mark S_Ledger.length S_Ledger S_Ledger 0 [(0, zR (some 0)), (1, zI a1), (2, zI a2)] [] μ 0 0 (F_Ledger_mark a1 a2 μ) := by
  unfold F_Ledger_mark
  refine AW.aload_n (i := 0) (a := 0) (by decide +kernel) rfl (?_ : AW _ _ _ _ 1 _ _ _ _ _ _)
  refine AW.iload_n (i := 1) (a := a1) (by decide +kernel) rfl (?_ : AW _ _ _ _ 2 _ _ _ _ _ _)
  refine AW.callVw (g := cf_Ledger_isDeal) (av := [zI a1]) (b0 := 0) (ci := 8) (idx := 146) (n := 1) (st := []) (by decide +kernel) (fun l hl r hr => c_Ledger_isDeal l hl a1 _ r hr) S_Ledger_wf rfl cal_Ledger_isDeal rfl (zw4 zm_X8_146 zi_yX8_isDeal zs_yX8_isDeal zn_X8) rfl rfl ⟨by decide, by decide, by decide, by decide⟩ (Nat.le_of_ble_eq_true rfl) (Or.inl rfl) (fun v μ1 => AW.kI (fun x2 => (?_ : AW _ _ _ _ 5 _ _ _ _ _ _)) v)
  refine AW.if_ne (off := 11) (tgt := 16) (by decide +kernel) (by decide) (fun _ => ?_) (fun _ => ?_)
  · exact AW.throw thr_Ledger_mark_8 (by decide) (by decide) (by decide)
  · refine AW.iload_n (i := 2) (a := a2) (by decide +kernel) rfl (?_ : AW _ _ _ _ 17 _ _ _ _ _ _)
    refine AW.if_lt (off := 10) (tgt := 27) (by decide +kernel) (by decide) (fun _ => ?_) (fun _ => ?_)
    · refine AW.sub (L' := []) [] rfl ?_
      exact j_Ledger_mark_27 μ1
    · refine AW.iload_n (i := 2) (a := a2) (by decide +kernel) rfl (?_ : AW _ _ _ _ 21 _ _ _ _ _ _)
      refine AW.sipush (n := 9999) (by decide +kernel) (by decide +kernel) (?_ : AW _ _ _ _ 24 _ _ _ _ _ _)
      refine AW.icmp_le (off := 11) (tgt := 35) (by decide +kernel) (by decide) (fun _ => ?_) (fun _ => ?_)
      · refine AW.aload_n (i := 0) (a := 0) (by decide +kernel) rfl (?_ : AW _ _ _ _ 36 _ _ _ _ _ _)
        refine AW.iconst (n := 3) (by decide +kernel) (?_ : AW _ _ _ _ 37 _ _ _ _ _ _)
        refine AW.iload_n (i := 1) (a := a1) (by decide +kernel) rfl (?_ : AW _ _ _ _ 38 _ _ _ _ _ _)
        refine AW.iload_n (i := 2) (a := a2) (by decide +kernel) rfl (?_ : AW _ _ _ _ 39 _ _ _ _ _ _)
        refine AW.iconst (n := -1) (by decide +kernel) (?_ : AW _ _ _ _ 40 _ _ _ _ _ _)
        refine AW.callVw (g := cf_Ledger_done) (av := [zI 3, zI a1, zI a2, zI (-1)]) (b0 := 0) (ci := 8) (idx := 164) (n := 4) (st := []) (by decide +kernel) (fun l hl r hr => c_Ledger_done l hl 3 a1 a2 (-1) _ r hr) S_Ledger_wf rfl cal_Ledger_done rfl (zw4 zm_X8_164 zi_yX8_done zs_yX8_done zn_X8) rfl rfl ⟨by decide, by decide, by decide, by decide⟩ (Nat.le_of_ble_eq_true rfl) (Or.inr ⟨rfl, rfl, rfl⟩) (fun v μ3 => AW.kJ (fun x4 => (?_ : AW _ _ _ _ 43 _ _ _ _ _ _)) v)
        refine AW.l2i (by decide +kernel) (?_ : AW _ _ _ _ 44 _ _ _ _ _ _)
        exact AW.reti (by decide +kernel) rfl (by decide) (by decide)
      · refine AW.sub (L' := []) [] rfl ?_
        exact j_Ledger_mark_27 μ1
theorem c_Ledger_mark (l : Launch) (hl : l.stackTraces = false) (a1 : Int) (a2 : Int) (μ : ZMem) (r : ZRes) (h : F_Ledger_mark a1 a2 μ = some r) : ZC l cf_Ledger_mark S_Ledger S_Ledger [zR (some 0), zI a1, zI a2] μ r := ZC.of hl (by decide +kernel) rfl rfl zft_X8_ok (Nat.le_of_ble_eq_true rfl) h (w_Ledger_mark a1 a2 μ)
/-! WeirLedger.quarters(I)I -/
def cf_Ledger_quarters : ZCf := (yX8_quarters, cX8_quarters, 2, some .int, [], 11, 1, 6, zft_X8, none)
theorem cal_Ledger_quarters : zCallee cf_Ledger_quarters 1 := ⟨rfl, zc_yX8_quarters, by decide, by decide, by decide +kernel⟩
theorem thr_Ledger_quarters_11 : zThr cf_Ledger_quarters 11 83 85 zEn "java/lang/IllegalArgumentException" := zThr_of ztw_IllegalArgumentException (by decide +kernel) (by decide +kernel) (by decide +kernel) (by decide +kernel) rfl (by decide)
def J_Ledger_quarters_11 (μ : ZMem) : Option ZRes := some (.inl "java/lang/IllegalArgumentException", μ)
set_option maxRecDepth 100000 in
theorem j_Ledger_quarters_11 (μ : ZMem) : AW cf_Ledger_quarters S_Ledger.length S_Ledger S_Ledger 11 [] [] μ 0 0 (J_Ledger_quarters_11 μ) := by
  unfold J_Ledger_quarters_11
  exact AW.throw thr_Ledger_quarters_11 (by decide) (by decide) (by decide)
def F_Ledger_quarters (a1 : Int) (μ : ZMem) : Option ZRes := if w32 a1 < w32 1 then (J_Ledger_quarters_11 μ) else (if w32 a1 ≤ w32 60 then (zC (F_Ledger_done 4 (-1) a1 (-1) μ) (zkJ (fun x2 μ1 => some (.inr (some (zI x2)), μ1))) zXo) else (J_Ledger_quarters_11 μ))
set_option maxRecDepth 100000 in
theorem w_Ledger_quarters (a1 : Int) (μ : ZMem) : AW cf_Ledger_quarters S_Ledger.length S_Ledger S_Ledger 0 [(0, zR (some 0)), (1, zI a1)] [] μ 0 0 (F_Ledger_quarters a1 μ) := by
  unfold F_Ledger_quarters
  refine AW.iload_n (i := 1) (a := a1) (by decide +kernel) rfl (?_ : AW _ _ _ _ 1 _ _ _ _ _ _)
  refine AW.iconst (n := 1) (by decide +kernel) (?_ : AW _ _ _ _ 2 _ _ _ _ _ _)
  refine AW.icmp_lt (off := 9) (tgt := 11) (by decide +kernel) (by decide) (fun _ => ?_) (fun _ => ?_)
  · refine AW.sub (L' := []) [] rfl ?_
    exact j_Ledger_quarters_11 μ
  · refine AW.iload_n (i := 1) (a := a1) (by decide +kernel) rfl (?_ : AW _ _ _ _ 6 _ _ _ _ _ _)
    refine AW.bipush (n := 60) (by decide +kernel) (by decide +kernel) (?_ : AW _ _ _ _ 8 _ _ _ _ _ _)
    refine AW.icmp_le (off := 11) (tgt := 19) (by decide +kernel) (by decide) (fun _ => ?_) (fun _ => ?_)
    · refine AW.aload_n (i := 0) (a := 0) (by decide +kernel) rfl (?_ : AW _ _ _ _ 20 _ _ _ _ _ _)
      refine AW.iconst (n := 4) (by decide +kernel) (?_ : AW _ _ _ _ 21 _ _ _ _ _ _)
      refine AW.iconst (n := -1) (by decide +kernel) (?_ : AW _ _ _ _ 22 _ _ _ _ _ _)
      refine AW.iload_n (i := 1) (a := a1) (by decide +kernel) rfl (?_ : AW _ _ _ _ 23 _ _ _ _ _ _)
      refine AW.iconst (n := -1) (by decide +kernel) (?_ : AW _ _ _ _ 24 _ _ _ _ _ _)
      refine AW.callVw (g := cf_Ledger_done) (av := [zI 4, zI (-1), zI a1, zI (-1)]) (b0 := 0) (ci := 8) (idx := 164) (n := 4) (st := []) (by decide +kernel) (fun l hl r hr => c_Ledger_done l hl 4 (-1) a1 (-1) _ r hr) S_Ledger_wf rfl cal_Ledger_done rfl (zw4 zm_X8_164 zi_yX8_done zs_yX8_done zn_X8) rfl rfl ⟨by decide, by decide, by decide, by decide⟩ (Nat.le_of_ble_eq_true rfl) (Or.inr ⟨rfl, rfl, rfl⟩) (fun v μ1 => AW.kJ (fun x2 => (?_ : AW _ _ _ _ 27 _ _ _ _ _ _)) v)
      refine AW.l2i (by decide +kernel) (?_ : AW _ _ _ _ 28 _ _ _ _ _ _)
      exact AW.reti (by decide +kernel) rfl (by decide) (by decide)
    · refine AW.sub (L' := []) [] rfl ?_
      exact j_Ledger_quarters_11 μ
theorem c_Ledger_quarters (l : Launch) (hl : l.stackTraces = false) (a1 : Int) (μ : ZMem) (r : ZRes) (h : F_Ledger_quarters a1 μ = some r) : ZC l cf_Ledger_quarters S_Ledger S_Ledger [zR (some 0), zI a1] μ r := ZC.of hl (by decide +kernel) rfl rfl zft_X8_ok (Nat.le_of_ble_eq_true rfl) h (w_Ledger_quarters a1 μ)
/-! WeirLedger.fail(I)I -/
def cf_Ledger_fail : ZCf := (yX8_fail, cX8_fail, 2, some .int, [], 11, 1, 6, zft_X8, none)
theorem cal_Ledger_fail : zCallee cf_Ledger_fail 1 := ⟨rfl, zc_yX8_fail, by decide, by decide, by decide +kernel⟩
theorem thr_Ledger_fail_8 : zThr cf_Ledger_fail 8 117 119 zEn "java/lang/IndexOutOfBoundsException" := zThr_of ztw_IndexOutOfBoundsException (by decide +kernel) (by decide +kernel) (by decide +kernel) (by decide +kernel) rfl (by decide)
def F_Ledger_fail (a1 : Int) (μ : ZMem) : Option ZRes := zC (F_Ledger_isInvestor a1 μ) (zkI (fun x2 μ1 => if w32 x2 = 0 then (some (.inl "java/lang/IndexOutOfBoundsException", μ1)) else (zC (F_Ledger_done 5 a1 0 (-1) μ1) (zkJ (fun x4 μ3 => some (.inr (some (zI x4)), μ3))) zXo))) zX0
set_option maxRecDepth 100000 in
theorem w_Ledger_fail (a1 : Int) (μ : ZMem) : AW cf_Ledger_fail S_Ledger.length S_Ledger S_Ledger 0 [(0, zR (some 0)), (1, zI a1)] [] μ 0 0 (F_Ledger_fail a1 μ) := by
  unfold F_Ledger_fail
  refine AW.aload_n (i := 0) (a := 0) (by decide +kernel) rfl (?_ : AW _ _ _ _ 1 _ _ _ _ _ _)
  refine AW.iload_n (i := 1) (a := a1) (by decide +kernel) rfl (?_ : AW _ _ _ _ 2 _ _ _ _ _ _)
  refine AW.callVw (g := cf_Ledger_isInvestor) (av := [zI a1]) (b0 := 0) (ci := 8) (idx := 113) (n := 1) (st := []) (by decide +kernel) (fun l hl r hr => c_Ledger_isInvestor l hl a1 _ r hr) S_Ledger_wf rfl cal_Ledger_isInvestor rfl (zw4 zm_X8_113 zi_yX8_isInvestor zs_yX8_isInvestor zn_X8) rfl rfl ⟨by decide, by decide, by decide, by decide⟩ (Nat.le_of_ble_eq_true rfl) (Or.inl rfl) (fun v μ1 => AW.kI (fun x2 => (?_ : AW _ _ _ _ 5 _ _ _ _ _ _)) v)
  refine AW.if_ne (off := 11) (tgt := 16) (by decide +kernel) (by decide) (fun _ => ?_) (fun _ => ?_)
  · exact AW.throw thr_Ledger_fail_8 (by decide) (by decide) (by decide)
  · refine AW.aload_n (i := 0) (a := 0) (by decide +kernel) rfl (?_ : AW _ _ _ _ 17 _ _ _ _ _ _)
    refine AW.iconst (n := 5) (by decide +kernel) (?_ : AW _ _ _ _ 18 _ _ _ _ _ _)
    refine AW.iload_n (i := 1) (a := a1) (by decide +kernel) rfl (?_ : AW _ _ _ _ 19 _ _ _ _ _ _)
    refine AW.iconst (n := 0) (by decide +kernel) (?_ : AW _ _ _ _ 20 _ _ _ _ _ _)
    refine AW.iconst (n := -1) (by decide +kernel) (?_ : AW _ _ _ _ 21 _ _ _ _ _ _)
    refine AW.callVw (g := cf_Ledger_done) (av := [zI 5, zI a1, zI 0, zI (-1)]) (b0 := 0) (ci := 8) (idx := 164) (n := 4) (st := []) (by decide +kernel) (fun l hl r hr => c_Ledger_done l hl 5 a1 0 (-1) _ r hr) S_Ledger_wf rfl cal_Ledger_done rfl (zw4 zm_X8_164 zi_yX8_done zs_yX8_done zn_X8) rfl rfl ⟨by decide, by decide, by decide, by decide⟩ (Nat.le_of_ble_eq_true rfl) (Or.inr ⟨rfl, rfl, rfl⟩) (fun v μ3 => AW.kJ (fun x4 => (?_ : AW _ _ _ _ 24 _ _ _ _ _ _)) v)
    refine AW.l2i (by decide +kernel) (?_ : AW _ _ _ _ 25 _ _ _ _ _ _)
    exact AW.reti (by decide +kernel) rfl (by decide) (by decide)
theorem c_Ledger_fail (l : Launch) (hl : l.stackTraces = false) (a1 : Int) (μ : ZMem) (r : ZRes) (h : F_Ledger_fail a1 μ = some r) : ZC l cf_Ledger_fail S_Ledger S_Ledger [zR (some 0), zI a1] μ r := ZC.of hl (by decide +kernel) rfl rfl zft_X8_ok (Nat.le_of_ble_eq_true rfl) h (w_Ledger_fail a1 μ)
/-! WeirLedger.move(III)I -/
def cf_Ledger_move : ZCf := (yX8_move, cX8_move, 4, some .int, [], 11, 1, 6, zft_X8, none)
theorem cal_Ledger_move : zCallee cf_Ledger_move 3 := ⟨rfl, zc_yX8_move, by decide, by decide, by decide +kernel⟩
theorem thr_Ledger_move_16 : zThr cf_Ledger_move 16 117 119 zEn "java/lang/IndexOutOfBoundsException" := zThr_of ztw_IndexOutOfBoundsException (by decide +kernel) (by decide +kernel) (by decide +kernel) (by decide +kernel) rfl (by decide)
theorem thr_Ledger_move_41 : zThr cf_Ledger_move 41 83 85 zEn "java/lang/IllegalArgumentException" := zThr_of ztw_IllegalArgumentException (by decide +kernel) (by decide +kernel) (by decide +kernel) (by decide +kernel) rfl (by decide)
def J_Ledger_move_16 (μ : ZMem) : Option ZRes := some (.inl "java/lang/IndexOutOfBoundsException", μ)
set_option maxRecDepth 100000 in
theorem j_Ledger_move_16 (μ : ZMem) : AW cf_Ledger_move S_Ledger.length S_Ledger S_Ledger 16 [] [] μ 0 0 (J_Ledger_move_16 μ) := by
  unfold J_Ledger_move_16
  exact AW.throw thr_Ledger_move_16 (by decide) (by decide) (by decide)
def J_Ledger_move_41 (μ : ZMem) : Option ZRes := some (.inl "java/lang/IllegalArgumentException", μ)
set_option maxRecDepth 100000 in
theorem j_Ledger_move_41 (μ : ZMem) : AW cf_Ledger_move S_Ledger.length S_Ledger S_Ledger 41 [] [] μ 0 0 (J_Ledger_move_41 μ) := by
  unfold J_Ledger_move_41
  exact AW.throw thr_Ledger_move_41 (by decide) (by decide) (by decide)
def F_Ledger_move (a1 : Int) (a2 : Int) (a3 : Int) (μ : ZMem) : Option ZRes := zC (F_Ledger_isInvestor a1 μ) (zkI (fun x2 μ1 => if w32 x2 = 0 then (J_Ledger_move_16 μ1) else (zC (F_Ledger_isInvestor a2 μ1) (zkI (fun x4 μ3 => if w32 x4 = 0 then (J_Ledger_move_16 μ3) else (if w32 a1 = w32 a2 then (J_Ledger_move_41 μ3) else (if w32 a3 < w32 1 then (J_Ledger_move_41 μ3) else (if w32 a3 ≤ w32 9999 then (zC (F_Ledger_done 7 a1 a3 a2 μ3) (zkJ (fun x6 μ5 => some (.inr (some (zI x6)), μ5))) zXo) else (J_Ledger_move_41 μ3)))))) zX0))) zX0
set_option maxRecDepth 100000 in
theorem w_Ledger_move (a1 : Int) (a2 : Int) (a3 : Int) (μ : ZMem) : AW cf_Ledger_move S_Ledger.length S_Ledger S_Ledger 0 [(0, zR (some 0)), (1, zI a1), (2, zI a2), (3, zI a3)] [] μ 0 0 (F_Ledger_move a1 a2 a3 μ) := by
  unfold F_Ledger_move
  refine AW.aload_n (i := 0) (a := 0) (by decide +kernel) rfl (?_ : AW _ _ _ _ 1 _ _ _ _ _ _)
  refine AW.iload_n (i := 1) (a := a1) (by decide +kernel) rfl (?_ : AW _ _ _ _ 2 _ _ _ _ _ _)
  refine AW.callVw (g := cf_Ledger_isInvestor) (av := [zI a1]) (b0 := 0) (ci := 8) (idx := 113) (n := 1) (st := []) (by decide +kernel) (fun l hl r hr => c_Ledger_isInvestor l hl a1 _ r hr) S_Ledger_wf rfl cal_Ledger_isInvestor rfl (zw4 zm_X8_113 zi_yX8_isInvestor zs_yX8_isInvestor zn_X8) rfl rfl ⟨by decide, by decide, by decide, by decide⟩ (Nat.le_of_ble_eq_true rfl) (Or.inl rfl) (fun v μ1 => AW.kI (fun x2 => (?_ : AW _ _ _ _ 5 _ _ _ _ _ _)) v)
  refine AW.if_eq (off := 11) (tgt := 16) (by decide +kernel) (by decide) (fun _ => ?_) (fun _ => ?_)
  · refine AW.sub (L' := []) [] rfl ?_
    exact j_Ledger_move_16 μ1
  · refine AW.aload_n (i := 0) (a := 0) (by decide +kernel) rfl (?_ : AW _ _ _ _ 9 _ _ _ _ _ _)
    refine AW.iload_n (i := 2) (a := a2) (by decide +kernel) rfl (?_ : AW _ _ _ _ 10 _ _ _ _ _ _)
    refine AW.callVw (g := cf_Ledger_isInvestor) (av := [zI a2]) (b0 := 0) (ci := 8) (idx := 113) (n := 1) (st := []) (by decide +kernel) (fun l hl r hr => c_Ledger_isInvestor l hl a2 _ r hr) S_Ledger_wf rfl cal_Ledger_isInvestor rfl (zw4 zm_X8_113 zi_yX8_isInvestor zs_yX8_isInvestor zn_X8) rfl rfl ⟨by decide, by decide, by decide, by decide⟩ (Nat.le_of_ble_eq_true rfl) (Or.inl rfl) (fun v μ3 => AW.kI (fun x4 => (?_ : AW _ _ _ _ 13 _ _ _ _ _ _)) v)
    refine AW.if_ne (off := 11) (tgt := 24) (by decide +kernel) (by decide) (fun _ => ?_) (fun _ => ?_)
    · refine AW.sub (L' := []) [] rfl ?_
      exact j_Ledger_move_16 μ3
    · refine AW.iload_n (i := 1) (a := a1) (by decide +kernel) rfl (?_ : AW _ _ _ _ 25 _ _ _ _ _ _)
      refine AW.iload_n (i := 2) (a := a2) (by decide +kernel) rfl (?_ : AW _ _ _ _ 26 _ _ _ _ _ _)
      refine AW.icmp_eq (off := 15) (tgt := 41) (by decide +kernel) (by decide) (fun _ => ?_) (fun _ => ?_)
      · refine AW.sub (L' := []) [] rfl ?_
        exact j_Ledger_move_41 μ3
      · refine AW.iload_n (i := 3) (a := a3) (by decide +kernel) rfl (?_ : AW _ _ _ _ 30 _ _ _ _ _ _)
        refine AW.iconst (n := 1) (by decide +kernel) (?_ : AW _ _ _ _ 31 _ _ _ _ _ _)
        refine AW.icmp_lt (off := 10) (tgt := 41) (by decide +kernel) (by decide) (fun _ => ?_) (fun _ => ?_)
        · refine AW.sub (L' := []) [] rfl ?_
          exact j_Ledger_move_41 μ3
        · refine AW.iload_n (i := 3) (a := a3) (by decide +kernel) rfl (?_ : AW _ _ _ _ 35 _ _ _ _ _ _)
          refine AW.sipush (n := 9999) (by decide +kernel) (by decide +kernel) (?_ : AW _ _ _ _ 38 _ _ _ _ _ _)
          refine AW.icmp_le (off := 11) (tgt := 49) (by decide +kernel) (by decide) (fun _ => ?_) (fun _ => ?_)
          · refine AW.aload_n (i := 0) (a := 0) (by decide +kernel) rfl (?_ : AW _ _ _ _ 50 _ _ _ _ _ _)
            refine AW.bipush (n := 7) (by decide +kernel) (by decide +kernel) (?_ : AW _ _ _ _ 52 _ _ _ _ _ _)
            refine AW.iload_n (i := 1) (a := a1) (by decide +kernel) rfl (?_ : AW _ _ _ _ 53 _ _ _ _ _ _)
            refine AW.iload_n (i := 3) (a := a3) (by decide +kernel) rfl (?_ : AW _ _ _ _ 54 _ _ _ _ _ _)
            refine AW.iload_n (i := 2) (a := a2) (by decide +kernel) rfl (?_ : AW _ _ _ _ 55 _ _ _ _ _ _)
            refine AW.callVw (g := cf_Ledger_done) (av := [zI 7, zI a1, zI a3, zI a2]) (b0 := 0) (ci := 8) (idx := 164) (n := 4) (st := []) (by decide +kernel) (fun l hl r hr => c_Ledger_done l hl 7 a1 a3 a2 _ r hr) S_Ledger_wf rfl cal_Ledger_done rfl (zw4 zm_X8_164 zi_yX8_done zs_yX8_done zn_X8) rfl rfl ⟨by decide, by decide, by decide, by decide⟩ (Nat.le_of_ble_eq_true rfl) (Or.inr ⟨rfl, rfl, rfl⟩) (fun v μ5 => AW.kJ (fun x6 => (?_ : AW _ _ _ _ 58 _ _ _ _ _ _)) v)
            refine AW.l2i (by decide +kernel) (?_ : AW _ _ _ _ 59 _ _ _ _ _ _)
            exact AW.reti (by decide +kernel) rfl (by decide) (by decide)
          · refine AW.sub (L' := []) [] rfl ?_
            exact j_Ledger_move_41 μ3
theorem c_Ledger_move (l : Launch) (hl : l.stackTraces = false) (a1 : Int) (a2 : Int) (a3 : Int) (μ : ZMem) (r : ZRes) (h : F_Ledger_move a1 a2 a3 μ = some r) : ZC l cf_Ledger_move S_Ledger S_Ledger [zR (some 0), zI a1, zI a2, zI a3] μ r := ZC.of hl (by decide +kernel) rfl rfl zft_X8_ok (Nat.le_of_ble_eq_true rfl) h (w_Ledger_move a1 a2 a3 μ)
/-! WeirLedger.close()J -/
def cf_Ledger_close : ZCf := (yX8_close, cX8_close, 1, some .long, [], 11, 1, 6, zft_X8, none)
theorem cal_Ledger_close : zCallee cf_Ledger_close 0 := ⟨rfl, zc_yX8_close, by decide, by decide, by decide +kernel⟩
def F_Ledger_close (μ : ZMem) : Option ZRes := zC (F_Ledger_done 6 (-1) 0 (-1) μ) (zkJ (fun x2 μ1 => some (.inr (some (zJ x2)), μ1))) zXo
set_option maxRecDepth 100000 in
theorem w_Ledger_close (μ : ZMem) : AW cf_Ledger_close S_Ledger.length S_Ledger S_Ledger 0 [(0, zR (some 0))] [] μ 0 0 (F_Ledger_close μ) := by
  unfold F_Ledger_close
  refine AW.aload_n (i := 0) (a := 0) (by decide +kernel) rfl (?_ : AW _ _ _ _ 1 _ _ _ _ _ _)
  refine AW.bipush (n := 6) (by decide +kernel) (by decide +kernel) (?_ : AW _ _ _ _ 3 _ _ _ _ _ _)
  refine AW.iconst (n := -1) (by decide +kernel) (?_ : AW _ _ _ _ 4 _ _ _ _ _ _)
  refine AW.iconst (n := 0) (by decide +kernel) (?_ : AW _ _ _ _ 5 _ _ _ _ _ _)
  refine AW.iconst (n := -1) (by decide +kernel) (?_ : AW _ _ _ _ 6 _ _ _ _ _ _)
  refine AW.callVw (g := cf_Ledger_done) (av := [zI 6, zI (-1), zI 0, zI (-1)]) (b0 := 0) (ci := 8) (idx := 164) (n := 4) (st := []) (by decide +kernel) (fun l hl r hr => c_Ledger_done l hl 6 (-1) 0 (-1) _ r hr) S_Ledger_wf rfl cal_Ledger_done rfl (zw4 zm_X8_164 zi_yX8_done zs_yX8_done zn_X8) rfl rfl ⟨by decide, by decide, by decide, by decide⟩ (Nat.le_of_ble_eq_true rfl) (Or.inr ⟨rfl, rfl, rfl⟩) (fun v μ1 => AW.kJ (fun x2 => (?_ : AW _ _ _ _ 9 _ _ _ _ _ _)) v)
  exact AW.retl (by decide +kernel) rfl (by decide) (by decide)
theorem c_Ledger_close (l : Launch) (hl : l.stackTraces = false) (μ : ZMem) (r : ZRes) (h : F_Ledger_close μ = some r) : ZC l cf_Ledger_close S_Ledger S_Ledger [zR (some 0)] μ r := ZC.of hl (by decide +kernel) rfl rfl zft_X8_ok (Nat.le_of_ble_eq_true rfl) h (w_Ledger_close μ)
/-! WeirLedger.undo()I -/
def cf_Ledger_undo : ZCf := (yX8_undo, cX8_undo, 1, some .int, [], 10, 1, 6, zft_X8, none)
theorem cal_Ledger_undo : zCallee cf_Ledger_undo 0 := ⟨rfl, zc_yX8_undo, by decide, by decide, by decide +kernel⟩
theorem thr_Ledger_undo_10 : zThr cf_Ledger_undo 10 168 170 zEn "java/lang/IllegalStateException" := zThr_of ztw_IllegalStateException (by decide +kernel) (by decide +kernel) (by decide +kernel) (by decide +kernel) rfl (by decide)
def F_Ledger_undo (μ : ZMem) : Option ZRes := if w32 (μ 11 1) = 0 then (some (.inl "java/lang/IllegalStateException", μ)) else (zLet (zUp μ 11 1 ((μ 11 1) - 1)) (fun μ1 => zC (F_Ledger_goThroughAnew  μ1) (zkV (fun μ2 => some (.inr (some (zI (μ2 11 1))), μ2))) zX0))
set_option maxRecDepth 100000 in
theorem w_Ledger_undo (μ : ZMem) : AW cf_Ledger_undo S_Ledger.length S_Ledger S_Ledger 0 [(0, zR (some 0))] [] μ 0 0 (F_Ledger_undo μ) := by
  unfold F_Ledger_undo
  refine AW.aload_n (i := 0) (a := 0) (by decide +kernel) rfl (?_ : AW _ _ _ _ 1 _ _ _ _ _ _)
  refine AW.getR (idx := 29) (ci := 8) (k := 3) (r := 0) (by decide +kernel) rfl rfl rfl (?_ : AW _ _ _ _ 4 _ _ _ _ _ _)
  refine AW.getI (idx := 90) (ci := 2) (k := 1) (r := 11) (by decide +kernel) rfl rfl rfl (?_ : AW _ _ _ _ 7 _ _ _ _ _ _)
  refine AW.if_ne (off := 11) (tgt := 18) (by decide +kernel) (by decide) (fun _ => ?_) (fun _ => ?_)
  · exact AW.throw thr_Ledger_undo_10 (by decide) (by decide) (by decide)
  · refine AW.aload_n (i := 0) (a := 0) (by decide +kernel) rfl (?_ : AW _ _ _ _ 19 _ _ _ _ _ _)
    refine AW.getR (idx := 29) (ci := 8) (k := 3) (r := 0) (by decide +kernel) rfl rfl rfl (?_ : AW _ _ _ _ 22 _ _ _ _ _ _)
    refine AW.dup (by decide +kernel) rfl (?_ : AW _ _ _ _ 23 _ _ _ _ _ _)
    refine AW.getI (idx := 90) (ci := 2) (k := 1) (r := 11) (by decide +kernel) rfl rfl rfl (?_ : AW _ _ _ _ 26 _ _ _ _ _ _)
    refine AW.iconst (n := 1) (by decide +kernel) (?_ : AW _ _ _ _ 27 _ _ _ _ _ _)
    refine AW.isub (by decide +kernel) (?_ : AW _ _ _ _ 28 _ _ _ _ _ _)
    refine AW.putiL (idx := 90) (ci := 2) (k := 1) (r := 11) (by decide +kernel) rfl rfl rfl (fun μ1 => (?_ : AW _ _ _ _ 31 _ _ _ _ _ _))
    refine AW.aload_n (i := 0) (a := 0) (by decide +kernel) rfl (?_ : AW _ _ _ _ 32 _ _ _ _ _ _)
    refine AW.callVw (g := cf_Ledger_goThroughAnew) (av := []) (b0 := 0) (ci := 8) (idx := 93) (n := 0) (st := []) (by decide +kernel) (fun l hl r hr => c_Ledger_goThroughAnew l hl  _ r hr) S_Ledger_wf rfl cal_Ledger_goThroughAnew rfl (zw4 zm_X8_93 zi_yX8_goThroughAnew zs_yX8_goThroughAnew zn_X8) rfl rfl ⟨by decide, by decide, by decide, by decide⟩ (Nat.le_of_ble_eq_true rfl) (Or.inl rfl) (fun v μ2 => AW.kV (?_ : AW _ _ _ _ 35 _ _ _ _ _ _) v)
    refine AW.aload_n (i := 0) (a := 0) (by decide +kernel) rfl (?_ : AW _ _ _ _ 36 _ _ _ _ _ _)
    refine AW.getR (idx := 29) (ci := 8) (k := 3) (r := 0) (by decide +kernel) rfl rfl rfl (?_ : AW _ _ _ _ 39 _ _ _ _ _ _)
    refine AW.getI (idx := 90) (ci := 2) (k := 1) (r := 11) (by decide +kernel) rfl rfl rfl (?_ : AW _ _ _ _ 42 _ _ _ _ _ _)
    exact AW.reti (by decide +kernel) rfl (by decide) (by decide)
theorem c_Ledger_undo (l : Launch) (hl : l.stackTraces = false) (μ : ZMem) (r : ZRes) (h : F_Ledger_undo μ = some r) : ZC l cf_Ledger_undo S_Ledger S_Ledger [zR (some 0)] μ r := ZC.of hl (by decide +kernel) rfl rfl zft_X8_ok (Nat.le_of_ble_eq_true rfl) h (w_Ledger_undo μ)
/-! WeirLedger.isDealOrNone(I)Z -/
def cf_Ledger_isDealOrNone : ZCf := (yX8_isDealOrNone, cX8_isDealOrNone, 2, some .boolean, [], 3, 0, 0, zft_X8, none)
theorem cal_Ledger_isDealOrNone : zCallee cf_Ledger_isDealOrNone 1 := ⟨rfl, zc_yX8_isDealOrNone, by decide, by decide, by decide +kernel⟩
def J_Ledger_isDealOrNone_13 (μ : ZMem) : Option ZRes := some (.inr (some (zI 1)), μ)
set_option maxRecDepth 100000 in
theorem j_Ledger_isDealOrNone_13 (μ : ZMem) : AW cf_Ledger_isDealOrNone S_Ledger.length S_Ledger S_Ledger 13 [] [] μ 0 0 (J_Ledger_isDealOrNone_13 μ) := by
  unfold J_Ledger_isDealOrNone_13
  refine AW.iconst (n := 1) (by decide +kernel) (?_ : AW _ _ _ _ 14 _ _ _ _ _ _)
  refine AW.goto (off := 4) (tgt := 18) (by decide +kernel) (by decide) ?_
  exact AW.retb1 (by decide +kernel) rfl (by decide) (by decide) (by decide)
def F_Ledger_isDealOrNone (a1 : Int) (μ : ZMem) : Option ZRes := if w32 a1 = w32 (-1) then (J_Ledger_isDealOrNone_13 μ) else (zC (F_Ledger_isDeal a1 μ) (zkI (fun x2 μ1 => if w32 x2 = 0 then (some (.inr (some (zI 0)), μ1)) else (J_Ledger_isDealOrNone_13 μ1))) zX0)
set_option maxRecDepth 100000 in
theorem w_Ledger_isDealOrNone (a1 : Int) (μ : ZMem) : AW cf_Ledger_isDealOrNone S_Ledger.length S_Ledger S_Ledger 0 [(0, zR (some 0)), (1, zI a1)] [] μ 0 0 (F_Ledger_isDealOrNone a1 μ) := by
  unfold F_Ledger_isDealOrNone
  refine AW.iload_n (i := 1) (a := a1) (by decide +kernel) rfl (?_ : AW _ _ _ _ 1 _ _ _ _ _ _)
  refine AW.iconst (n := -1) (by decide +kernel) (?_ : AW _ _ _ _ 2 _ _ _ _ _ _)
  refine AW.icmp_eq (off := 11) (tgt := 13) (by decide +kernel) (by decide) (fun _ => ?_) (fun _ => ?_)
  · refine AW.sub (L' := []) [] rfl ?_
    exact j_Ledger_isDealOrNone_13 μ
  · refine AW.aload_n (i := 0) (a := 0) (by decide +kernel) rfl (?_ : AW _ _ _ _ 6 _ _ _ _ _ _)
    refine AW.iload_n (i := 1) (a := a1) (by decide +kernel) rfl (?_ : AW _ _ _ _ 7 _ _ _ _ _ _)
    refine AW.callVw (g := cf_Ledger_isDeal) (av := [zI a1]) (b0 := 0) (ci := 8) (idx := 146) (n := 1) (st := []) (by decide +kernel) (fun l hl r hr => c_Ledger_isDeal l hl a1 _ r hr) S_Ledger_wf rfl cal_Ledger_isDeal rfl (zw4 zm_X8_146 zi_yX8_isDeal zs_yX8_isDeal zn_X8) rfl rfl ⟨by decide, by decide, by decide, by decide⟩ (Nat.le_of_ble_eq_true rfl) (Or.inl rfl) (fun v μ1 => AW.kI (fun x2 => (?_ : AW _ _ _ _ 10 _ _ _ _ _ _)) v)
    refine AW.if_eq (off := 7) (tgt := 17) (by decide +kernel) (by decide) (fun _ => ?_) (fun _ => ?_)
    · refine AW.iconst (n := 0) (by decide +kernel) (?_ : AW _ _ _ _ 18 _ _ _ _ _ _)
      exact AW.retb1 (by decide +kernel) rfl (by decide) (by decide) (by decide)
    · refine AW.sub (L' := []) [] rfl ?_
      exact j_Ledger_isDealOrNone_13 μ1
theorem c_Ledger_isDealOrNone (l : Launch) (hl : l.stackTraces = false) (a1 : Int) (μ : ZMem) (r : ZRes) (h : F_Ledger_isDealOrNone a1 μ = some r) : ZC l cf_Ledger_isDealOrNone S_Ledger S_Ledger [zR (some 0), zI a1] μ r := ZC.of hl (by decide +kernel) rfl rfl zft_X8_ok (Nat.le_of_ble_eq_true rfl) h (w_Ledger_isDealOrNone a1 μ)
theorem sb_52 : zSub S_Ledger [14, 15, 16, 17, 18, 19] S_Books3 := ⟨rfl, by decide +kernel, by decide +kernel, rfl⟩
/-! WeirLedger.measureAt(II)V -/
def cf_Ledger_measureAt : ZCf := (yX8_measureAt, cX8_measureAt, 4, none, [], 4, 0, 0, zft_X8, none)
theorem cal_Ledger_measureAt : zCallee cf_Ledger_measureAt 2 := ⟨rfl, zc_yX8_measureAt, by decide, by decide, by decide +kernel⟩
def J_Ledger_measureAt_41 (a2 : Int) (u3 : Int) (y0 : Int) (μ : ZMem) : Option ZRes := zCm [14, 15, 16, 17, 18, 19] μ (F_Books_measure y0 u3 (w32 a2) (zVw [14, 15, 16, 17, 18, 19] μ)) (zkV (fun μ1 => some (.inr none, μ1))) zX0
set_option maxRecDepth 100000 in
theorem j_Ledger_measureAt_41 (a2 : Int) (u3 : Int) (y0 : Int) (μ : ZMem) : AW cf_Ledger_measureAt S_Ledger.length S_Ledger S_Ledger 41 [(2, zI a2), (3, zI u3)] [zI y0, zR (some 14)] μ 0 0 (J_Ledger_measureAt_41 a2 u3 y0 μ) := by
  unfold J_Ledger_measureAt_41
  refine AW.iload_n (i := 3) (a := u3) (by decide +kernel) rfl (?_ : AW _ _ _ _ 42 _ _ _ _ _ _)
  refine AW.iload_n (i := 2) (a := a2) (by decide +kernel) rfl (?_ : AW _ _ _ _ 43 _ _ _ _ _ _)
  refine AW.i2l (by decide +kernel) (?_ : AW _ _ _ _ 44 _ _ _ _ _ _)
  refine AW.callVm (g := cf_Books_measure) (Sg := S_Books3) (pl := [14, 15, 16, 17, 18, 19]) (av := [zI y0, zI u3, zJ (w32 a2)]) (b0 := 0) (ci := 0) (idx := 309) (n := 3) (st := []) (by decide +kernel) (fun l hl r hr => c_Books_measure l hl y0 u3 (w32 a2) _ r hr) sb_52 rfl cal_Books_measure rfl (zw4 zm_X8_309 zi_yX0_measure zs_yX0_measure zn_X0) rfl rfl ⟨by decide, by decide, by decide, by decide⟩ (Nat.le_of_ble_eq_true rfl) (Or.inl rfl) (fun v μ1 => AW.rV (?_ : AW _ _ _ _ 47 _ _ _ _ _ _) v)
  exact AW.retv (by decide +kernel) rfl (by decide) (by decide)
def J_Ledger_measureAt_23 (a1 : Int) (a2 : Int) (y0 : Int) (μ : ZMem) : Option ZRes := if w32 y0 = 0 then (J_Ledger_measureAt_41 a2 y0 6 μ) else (J_Ledger_measureAt_41 a2 y0 a1 μ)
set_option maxRecDepth 100000 in
theorem j_Ledger_measureAt_23 (a1 : Int) (a2 : Int) (y0 : Int) (μ : ZMem) : AW cf_Ledger_measureAt S_Ledger.length S_Ledger S_Ledger 23 [(0, zR (some 0)), (1, zI a1), (2, zI a2)] [zI y0] μ 0 0 (J_Ledger_measureAt_23 a1 a2 y0 μ) := by
  unfold J_Ledger_measureAt_23
  refine AW.istore_n' (i := 3) (L' := [(3, zI y0), (0, zR (some 0)), (1, zI a1), (2, zI a2)]) (by decide +kernel) (by decide) rfl (?_ : AW _ _ _ _ 24 _ _ _ _ _ _)
  refine AW.aload_n (i := 0) (a := 0) (by decide +kernel) rfl (?_ : AW _ _ _ _ 25 _ _ _ _ _ _)
  refine AW.getR (idx := 38) (ci := 8) (k := 4) (r := 0) (by decide +kernel) rfl rfl rfl (?_ : AW _ _ _ _ 28 _ _ _ _ _ _)
  refine AW.getR (idx := 152) (ci := 5) (k := 0) (r := 13) (by decide +kernel) rfl rfl rfl (?_ : AW _ _ _ _ 31 _ _ _ _ _ _)
  refine AW.iload_n (i := 3) (a := y0) (by decide +kernel) rfl (?_ : AW _ _ _ _ 32 _ _ _ _ _ _)
  refine AW.if_eq (off := 7) (tgt := 39) (by decide +kernel) (by decide) (fun _ => ?_) (fun _ => ?_)
  · refine AW.bipush (n := 6) (by decide +kernel) (by decide +kernel) (?_ : AW _ _ _ _ 41 _ _ _ _ _ _)
    refine AW.sub (L' := [(2, zI a2), (3, zI y0)]) [3, 0] rfl ?_
    exact j_Ledger_measureAt_41 a2 y0 6 μ
  · refine AW.iload_n (i := 1) (a := a1) (by decide +kernel) rfl (?_ : AW _ _ _ _ 36 _ _ _ _ _ _)
    refine AW.goto (off := 5) (tgt := 41) (by decide +kernel) (by decide) ?_
    refine AW.sub (L' := [(2, zI a2), (3, zI y0)]) [3, 0] rfl ?_
    exact j_Ledger_measureAt_41 a2 y0 a1 μ
def J_Ledger_measureAt_22 (a1 : Int) (a2 : Int) (μ : ZMem) : Option ZRes := J_Ledger_measureAt_23 a1 a2 0 μ
set_option maxRecDepth 100000 in
theorem j_Ledger_measureAt_22 (a1 : Int) (a2 : Int) (μ : ZMem) : AW cf_Ledger_measureAt S_Ledger.length S_Ledger S_Ledger 22 [(0, zR (some 0)), (1, zI a1), (2, zI a2)] [] μ 0 0 (J_Ledger_measureAt_22 a1 a2 μ) := by
  unfold J_Ledger_measureAt_22
  refine AW.iconst (n := 0) (by decide +kernel) (?_ : AW _ _ _ _ 23 _ _ _ _ _ _)
  exact j_Ledger_measureAt_23 a1 a2 0 μ
def F_Ledger_measureAt (a1 : Int) (a2 : Int) (μ : ZMem) : Option ZRes := if w32 a1 = w32 (-1) then (J_Ledger_measureAt_22 a1 a2 μ) else (zCm [14, 15, 16, 17, 18, 19] μ (F_Books_isDealwise  (zVw [14, 15, 16, 17, 18, 19] μ)) (zkI (fun x4 μ3 => if w32 x4 = 0 then (J_Ledger_measureAt_22 a1 a2 μ3) else (J_Ledger_measureAt_23 a1 a2 1 μ3))) zX0)
set_option maxRecDepth 100000 in
theorem w_Ledger_measureAt (a1 : Int) (a2 : Int) (μ : ZMem) : AW cf_Ledger_measureAt S_Ledger.length S_Ledger S_Ledger 0 [(0, zR (some 0)), (1, zI a1), (2, zI a2)] [] μ 0 0 (F_Ledger_measureAt a1 a2 μ) := by
  unfold F_Ledger_measureAt
  refine AW.iload_n (i := 1) (a := a1) (by decide +kernel) rfl (?_ : AW _ _ _ _ 1 _ _ _ _ _ _)
  refine AW.iconst (n := -1) (by decide +kernel) (?_ : AW _ _ _ _ 2 _ _ _ _ _ _)
  refine AW.icmp_eq (off := 20) (tgt := 22) (by decide +kernel) (by decide) (fun _ => ?_) (fun _ => ?_)
  · exact j_Ledger_measureAt_22 a1 a2 μ
  · refine AW.aload_n (i := 0) (a := 0) (by decide +kernel) rfl (?_ : AW _ _ _ _ 6 _ _ _ _ _ _)
    refine AW.getR (idx := 38) (ci := 8) (k := 4) (r := 0) (by decide +kernel) rfl rfl rfl (?_ : AW _ _ _ _ 9 _ _ _ _ _ _)
    refine AW.getR (idx := 152) (ci := 5) (k := 0) (r := 13) (by decide +kernel) rfl rfl rfl (?_ : AW _ _ _ _ 12 _ _ _ _ _ _)
    refine AW.callVm (g := cf_Books_isDealwise) (Sg := S_Books3) (pl := [14, 15, 16, 17, 18, 19]) (av := []) (b0 := 0) (ci := 0) (idx := 269) (n := 0) (st := []) (by decide +kernel) (fun l hl r hr => c_Books_isDealwise l hl  _ r hr) sb_52 rfl cal_Books_isDealwise rfl (zw4 zm_X8_269 zi_yX0_isDealwise zs_yX0_isDealwise zn_X0) rfl rfl ⟨by decide, by decide, by decide, by decide⟩ (Nat.le_of_ble_eq_true rfl) (Or.inl rfl) (fun v μ3 => AW.rI (fun x4 => (?_ : AW _ _ _ _ 15 _ _ _ _ _ _)) v)
    refine AW.if_eq (off := 7) (tgt := 22) (by decide +kernel) (by decide) (fun _ => ?_) (fun _ => ?_)
    · exact j_Ledger_measureAt_22 a1 a2 μ3
    · refine AW.iconst (n := 1) (by decide +kernel) (?_ : AW _ _ _ _ 19 _ _ _ _ _ _)
      refine AW.goto (off := 4) (tgt := 23) (by decide +kernel) (by decide) ?_
      exact j_Ledger_measureAt_23 a1 a2 1 μ3
theorem c_Ledger_measureAt (l : Launch) (hl : l.stackTraces = false) (a1 : Int) (a2 : Int) (μ : ZMem) (r : ZRes) (h : F_Ledger_measureAt a1 a2 μ = some r) : ZC l cf_Ledger_measureAt S_Ledger S_Ledger [zR (some 0), zI a1, zI a2] μ r := ZC.of hl (by decide +kernel) rfl rfl zft_X8_ok (Nat.le_of_ble_eq_true rfl) h (w_Ledger_measureAt a1 a2 μ)
/-! WeirLedger.filling(III)J -/
def cf_Ledger_filling : ZCf := (yX8_filling, cX8_filling, 4, some .long, [], 10, 1, 6, zft_X8, none)
theorem cal_Ledger_filling : zCallee cf_Ledger_filling 3 := ⟨rfl, zc_yX8_filling, by decide, by decide, by decide +kernel⟩
theorem thr_Ledger_filling_8 : zThr cf_Ledger_filling 8 117 119 zEn "java/lang/IndexOutOfBoundsException" := zThr_of ztw_IndexOutOfBoundsException (by decide +kernel) (by decide +kernel) (by decide +kernel) (by decide +kernel) rfl (by decide)
theorem thr_Ledger_filling_26 : zThr cf_Ledger_filling 26 83 85 zEn "java/lang/IllegalArgumentException" := zThr_of ztw_IllegalArgumentException (by decide +kernel) (by decide +kernel) (by decide +kernel) (by decide +kernel) rfl (by decide)
theorem thr_Ledger_filling_43 : zThr cf_Ledger_filling 43 106 108 zEn "java/util/NoSuchElementException" := zThr_of ztw_NoSuchElementException (by decide +kernel) (by decide +kernel) (by decide +kernel) (by decide +kernel) rfl (by decide)
def J_Ledger_filling_26 (μ : ZMem) : Option ZRes := some (.inl "java/lang/IllegalArgumentException", μ)
set_option maxRecDepth 100000 in
theorem j_Ledger_filling_26 (μ : ZMem) : AW cf_Ledger_filling S_Ledger.length S_Ledger S_Ledger 26 [] [] μ 0 0 (J_Ledger_filling_26 μ) := by
  unfold J_Ledger_filling_26
  exact AW.throw thr_Ledger_filling_26 (by decide) (by decide) (by decide)
def J_Ledger_filling_43 (μ : ZMem) : Option ZRes := some (.inl "java/util/NoSuchElementException", μ)
set_option maxRecDepth 100000 in
theorem j_Ledger_filling_43 (μ : ZMem) : AW cf_Ledger_filling S_Ledger.length S_Ledger S_Ledger 43 [] [] μ 0 0 (J_Ledger_filling_43 μ) := by
  unfold J_Ledger_filling_43
  exact AW.throw thr_Ledger_filling_43 (by decide) (by decide) (by decide)
def F_Ledger_filling (a1 : Int) (a2 : Int) (a3 : Int) (μ : ZMem) : Option ZRes := zC (F_Ledger_isDealOrNone a1 μ) (zkI (fun x2 μ1 => if w32 x2 = 0 then (some (.inl "java/lang/IndexOutOfBoundsException", μ1)) else (if w32 a2 < 0 then (J_Ledger_filling_26 μ1) else (if w32 a2 ≤ w32 99999 then (if w32 a3 < 0 then (J_Ledger_filling_43 μ1) else (if w32 a3 ≤ w32 5 then (zC (F_Ledger_measureAt a1 a2 μ1) (zkV (fun μ3 => zRd μ3 19 6 a3 (fun x5 => some (.inr (some (zJ x5)), μ3)))) zX0) else (J_Ledger_filling_43 μ1))) else (J_Ledger_filling_26 μ1))))) zX0
set_option maxRecDepth 100000 in
theorem w_Ledger_filling (a1 : Int) (a2 : Int) (a3 : Int) (μ : ZMem) : AW cf_Ledger_filling S_Ledger.length S_Ledger S_Ledger 0 [(0, zR (some 0)), (1, zI a1), (2, zI a2), (3, zI a3)] [] μ 0 0 (F_Ledger_filling a1 a2 a3 μ) := by
  unfold F_Ledger_filling
  refine AW.aload_n (i := 0) (a := 0) (by decide +kernel) rfl (?_ : AW _ _ _ _ 1 _ _ _ _ _ _)
  refine AW.iload_n (i := 1) (a := a1) (by decide +kernel) rfl (?_ : AW _ _ _ _ 2 _ _ _ _ _ _)
  refine AW.callVw (g := cf_Ledger_isDealOrNone) (av := [zI a1]) (b0 := 0) (ci := 8) (idx := 171) (n := 1) (st := []) (by decide +kernel) (fun l hl r hr => c_Ledger_isDealOrNone l hl a1 _ r hr) S_Ledger_wf rfl cal_Ledger_isDealOrNone rfl (zw4 zm_X8_171 zi_yX8_isDealOrNone zs_yX8_isDealOrNone zn_X8) rfl rfl ⟨by decide, by decide, by decide, by decide⟩ (Nat.le_of_ble_eq_true rfl) (Or.inl rfl) (fun v μ1 => AW.kI (fun x2 => (?_ : AW _ _ _ _ 5 _ _ _ _ _ _)) v)
  refine AW.if_ne (off := 11) (tgt := 16) (by decide +kernel) (by decide) (fun _ => ?_) (fun _ => ?_)
  · exact AW.throw thr_Ledger_filling_8 (by decide) (by decide) (by decide)
  · refine AW.iload_n (i := 2) (a := a2) (by decide +kernel) rfl (?_ : AW _ _ _ _ 17 _ _ _ _ _ _)
    refine AW.if_lt (off := 9) (tgt := 26) (by decide +kernel) (by decide) (fun _ => ?_) (fun _ => ?_)
    · refine AW.sub (L' := []) [] rfl ?_
      exact j_Ledger_filling_26 μ1
    · refine AW.iload_n (i := 2) (a := a2) (by decide +kernel) rfl (?_ : AW _ _ _ _ 21 _ _ _ _ _ _)
      refine AW.ldci (idx := 174) (v := 99999) (by decide +kernel) zk_X8_174 (?_ : AW _ _ _ _ 23 _ _ _ _ _ _)
      refine AW.icmp_le (off := 11) (tgt := 34) (by decide +kernel) (by decide) (fun _ => ?_) (fun _ => ?_)
      · refine AW.iload_n (i := 3) (a := a3) (by decide +kernel) rfl (?_ : AW _ _ _ _ 35 _ _ _ _ _ _)
        refine AW.if_lt (off := 8) (tgt := 43) (by decide +kernel) (by decide) (fun _ => ?_) (fun _ => ?_)
        · refine AW.sub (L' := []) [] rfl ?_
          exact j_Ledger_filling_43 μ1
        · refine AW.iload_n (i := 3) (a := a3) (by decide +kernel) rfl (?_ : AW _ _ _ _ 39 _ _ _ _ _ _)
          refine AW.iconst (n := 5) (by decide +kernel) (?_ : AW _ _ _ _ 40 _ _ _ _ _ _)
          refine AW.icmp_le (off := 11) (tgt := 51) (by decide +kernel) (by decide) (fun _ => ?_) (fun _ => ?_)
          · refine AW.aload_n (i := 0) (a := 0) (by decide +kernel) rfl (?_ : AW _ _ _ _ 52 _ _ _ _ _ _)
            refine AW.iload_n (i := 1) (a := a1) (by decide +kernel) rfl (?_ : AW _ _ _ _ 53 _ _ _ _ _ _)
            refine AW.iload_n (i := 2) (a := a2) (by decide +kernel) rfl (?_ : AW _ _ _ _ 54 _ _ _ _ _ _)
            refine AW.callVw (g := cf_Ledger_measureAt) (av := [zI a1, zI a2]) (b0 := 0) (ci := 8) (idx := 175) (n := 2) (st := []) (by decide +kernel) (fun l hl r hr => c_Ledger_measureAt l hl a1 a2 _ r hr) S_Ledger_wf rfl cal_Ledger_measureAt rfl (zw4 zm_X8_175 zi_yX8_measureAt zs_yX8_measureAt zn_X8) rfl rfl ⟨by decide, by decide, by decide, by decide⟩ (Nat.le_of_ble_eq_true rfl) (Or.inl rfl) (fun v μ3 => AW.kV (?_ : AW _ _ _ _ 57 _ _ _ _ _ _) v)
            refine AW.aload_n (i := 0) (a := 0) (by decide +kernel) rfl (?_ : AW _ _ _ _ 58 _ _ _ _ _ _)
            refine AW.getR (idx := 38) (ci := 8) (k := 4) (r := 0) (by decide +kernel) rfl rfl rfl (?_ : AW _ _ _ _ 61 _ _ _ _ _ _)
            refine AW.getR (idx := 152) (ci := 5) (k := 0) (r := 13) (by decide +kernel) rfl rfl rfl (?_ : AW _ _ _ _ 64 _ _ _ _ _ _)
            refine AW.getR (idx := 179) (ci := 0) (k := 4) (r := 14) (by decide +kernel) rfl rfl rfl (?_ : AW _ _ _ _ 67 _ _ _ _ _ _)
            refine AW.iload_n (i := 3) (a := a3) (by decide +kernel) rfl (?_ : AW _ _ _ _ 68 _ _ _ _ _ _)
            refine AW.lald (r := 19) (by decide +kernel) rfl (fun x5 => (?_ : AW _ _ _ _ 69 _ _ _ _ _ _))
            exact AW.retl (by decide +kernel) rfl (by decide) (by decide)
          · refine AW.sub (L' := []) [] rfl ?_
            exact j_Ledger_filling_43 μ1
      · refine AW.sub (L' := []) [] rfl ?_
        exact j_Ledger_filling_26 μ1
theorem c_Ledger_filling (l : Launch) (hl : l.stackTraces = false) (a1 : Int) (a2 : Int) (a3 : Int) (μ : ZMem) (r : ZRes) (h : F_Ledger_filling a1 a2 a3 μ = some r) : ZC l cf_Ledger_filling S_Ledger S_Ledger [zR (some 0), zI a1, zI a2, zI a3] μ r := ZC.of hl (by decide +kernel) rfl rfl zft_X8_ok (Nat.le_of_ble_eq_true rfl) h (w_Ledger_filling a1 a2 a3 μ)
/-! WeirLedger.needed(II)I -/
def cf_Ledger_needed : ZCf := (yX8_needed, cX8_needed, 7, some .int, [], 10, 1, 6, zft_X8, none)
theorem cal_Ledger_needed : zCallee cf_Ledger_needed 2 := ⟨rfl, zc_yX8_needed, by decide, by decide, by decide +kernel⟩
theorem thr_Ledger_needed_8 : zThr cf_Ledger_needed 8 117 119 zEn "java/lang/IndexOutOfBoundsException" := zThr_of ztw_IndexOutOfBoundsException (by decide +kernel) (by decide +kernel) (by decide +kernel) (by decide +kernel) rfl (by decide)
theorem thr_Ledger_needed_25 : zThr cf_Ledger_needed 25 106 108 zEn "java/util/NoSuchElementException" := zThr_of ztw_NoSuchElementException (by decide +kernel) (by decide +kernel) (by decide +kernel) (by decide +kernel) rfl (by decide)
def J_Ledger_needed_25 (μ : ZMem) : Option ZRes := some (.inl "java/util/NoSuchElementException", μ)
set_option maxRecDepth 100000 in
theorem j_Ledger_needed_25 (μ : ZMem) : AW cf_Ledger_needed S_Ledger.length S_Ledger S_Ledger 25 [] [] μ 0 0 (J_Ledger_needed_25 μ) := by
  unfold J_Ledger_needed_25
  exact AW.throw thr_Ledger_needed_25 (by decide) (by decide) (by decide)
def L_Ledger_needed_67 (c2 : Int) (μ : ZMem) (K : Int → Option ZRes) : Nat → Int → Int → Option ZRes
  | 0, _, _ => none
  | n + 1, v4, v6 => if w32 c2 ≤ w32 v6 then (K v4) else (zRd μ 19 6 v6 (fun x6 => zLet ((v4 + x6)) (fun x7 => zLet (v6 + 1) (fun x8 => L_Ledger_needed_67 c2 μ K n x7 x8))))
set_option maxRecDepth 100000 in
theorem l_Ledger_needed_67 {c2 : Int} {μ : ZMem} {K : Int → Option ZRes} (hK : ∀ (k4 : Int), AW cf_Ledger_needed S_Ledger.length S_Ledger S_Ledger 88 [(4, zJ k4)] [] μ 0 0 (K k4)) : ∀ (n : Nat) (v4 : Int) (v6 : Int), AW cf_Ledger_needed S_Ledger.length S_Ledger S_Ledger 67 [(2, zI c2), (3, zR (some 19)), (4, zJ v4), (6, zI v6)] [] μ 0 0 (L_Ledger_needed_67 c2 μ K n v4 v6) := by
  intro n
  induction n with
  | zero => intro v4 v6; exact AW.noth
  | succ n ih =>
    intro v4 v6
    rw [L_Ledger_needed_67]
    refine AW.iload (i := 6) (a := v6) (by decide +kernel) rfl (?_ : AW _ _ _ _ 69 _ _ _ _ _ _)
    refine AW.iload_n (i := 2) (a := c2) (by decide +kernel) rfl (?_ : AW _ _ _ _ 70 _ _ _ _ _ _)
    refine AW.icmp_ge (off := 18) (tgt := 88) (by decide +kernel) (by decide) (fun _ => ?_) (fun _ => ?_)
    · refine AW.sub (L' := [(4, zJ v4)]) [2] rfl ?_
      exact hK v4
    · refine AW.lload (i := 4) (a := v4) (by decide +kernel) rfl (?_ : AW _ _ _ _ 75 _ _ _ _ _ _)
      refine AW.aload_n (i := 3) (a := 19) (by decide +kernel) rfl (?_ : AW _ _ _ _ 76 _ _ _ _ _ _)
      refine AW.iload (i := 6) (a := v6) (by decide +kernel) rfl (?_ : AW _ _ _ _ 78 _ _ _ _ _ _)
      refine AW.lald (r := 19) (by decide +kernel) rfl (fun x6 => (?_ : AW _ _ _ _ 79 _ _ _ _ _ _))
      refine AW.ladd (by decide +kernel) (?_ : AW _ _ _ _ 80 _ _ _ _ _ _)
      refine AW.lstoreL (i := 4) (L' := fun x7 => [(4, zJ x7), (2, zI c2), (3, zR (some 19)), (6, zI v6)]) (by decide +kernel) (by decide) (fun _ => rfl) (fun x7 => (?_ : AW _ _ _ _ 82 _ _ _ _ _ _))
      refine AW.iincL (i := 6) (n := 1) (a := v6) (L' := fun x8 => [(6, zI x8), (4, zJ x7), (2, zI c2), (3, zR (some 19))]) (by decide +kernel) rfl (by decide) (fun _ => rfl) (fun x8 => (?_ : AW _ _ _ _ 85 _ _ _ _ _ _))
      refine AW.goto (off := -18) (tgt := 67) (by decide +kernel) (by decide) ?_
      refine AW.sub (L' := [(2, zI c2), (3, zR (some 19)), (4, zJ x7), (6, zI x8)]) [2, 3, 1, 0] rfl ?_
      exact ih x7 x8
def F_Ledger_needed (a1 : Int) (a2 : Int) (μ : ZMem) : Option ZRes := zC (F_Ledger_isDealOrNone a1 μ) (zkI (fun x2 μ1 => if w32 x2 = 0 then (some (.inl "java/lang/IndexOutOfBoundsException", μ1)) else (if w32 a2 < 0 then (J_Ledger_needed_25 μ1) else (if w32 a2 < w32 4 then (zC (F_Ledger_measureAt a1 99999 μ1) (zkV (fun μ3 => zRd μ3 19 6 a2 (fun x5 => if w64 x5 = w64 0 then (some (.inr (some (zI (-1))), μ3)) else (L_Ledger_needed_67 a2 μ3 (fun k9 => some (.inr (some (zI (k9 + 1))), μ3)) zN 0 0)))) zX0) else (J_Ledger_needed_25 μ1))))) zX0
set_option maxRecDepth 100000 in
theorem w_Ledger_needed (a1 : Int) (a2 : Int) (μ : ZMem) : AW cf_Ledger_needed S_Ledger.length S_Ledger S_Ledger 0 [(0, zR (some 0)), (1, zI a1), (2, zI a2)] [] μ 0 0 (F_Ledger_needed a1 a2 μ) := by
  unfold F_Ledger_needed
  refine AW.aload_n (i := 0) (a := 0) (by decide +kernel) rfl (?_ : AW _ _ _ _ 1 _ _ _ _ _ _)
  refine AW.iload_n (i := 1) (a := a1) (by decide +kernel) rfl (?_ : AW _ _ _ _ 2 _ _ _ _ _ _)
  refine AW.callVw (g := cf_Ledger_isDealOrNone) (av := [zI a1]) (b0 := 0) (ci := 8) (idx := 171) (n := 1) (st := []) (by decide +kernel) (fun l hl r hr => c_Ledger_isDealOrNone l hl a1 _ r hr) S_Ledger_wf rfl cal_Ledger_isDealOrNone rfl (zw4 zm_X8_171 zi_yX8_isDealOrNone zs_yX8_isDealOrNone zn_X8) rfl rfl ⟨by decide, by decide, by decide, by decide⟩ (Nat.le_of_ble_eq_true rfl) (Or.inl rfl) (fun v μ1 => AW.kI (fun x2 => (?_ : AW _ _ _ _ 5 _ _ _ _ _ _)) v)
  refine AW.if_ne (off := 11) (tgt := 16) (by decide +kernel) (by decide) (fun _ => ?_) (fun _ => ?_)
  · exact AW.throw thr_Ledger_needed_8 (by decide) (by decide) (by decide)
  · refine AW.iload_n (i := 2) (a := a2) (by decide +kernel) rfl (?_ : AW _ _ _ _ 17 _ _ _ _ _ _)
    refine AW.if_lt (off := 8) (tgt := 25) (by decide +kernel) (by decide) (fun _ => ?_) (fun _ => ?_)
    · refine AW.sub (L' := []) [] rfl ?_
      exact j_Ledger_needed_25 μ1
    · refine AW.iload_n (i := 2) (a := a2) (by decide +kernel) rfl (?_ : AW _ _ _ _ 21 _ _ _ _ _ _)
      refine AW.iconst (n := 4) (by decide +kernel) (?_ : AW _ _ _ _ 22 _ _ _ _ _ _)
      refine AW.icmp_lt (off := 11) (tgt := 33) (by decide +kernel) (by decide) (fun _ => ?_) (fun _ => ?_)
      · refine AW.aload_n (i := 0) (a := 0) (by decide +kernel) rfl (?_ : AW _ _ _ _ 34 _ _ _ _ _ _)
        refine AW.iload_n (i := 1) (a := a1) (by decide +kernel) rfl (?_ : AW _ _ _ _ 35 _ _ _ _ _ _)
        refine AW.ldci (idx := 174) (v := 99999) (by decide +kernel) zk_X8_174 (?_ : AW _ _ _ _ 37 _ _ _ _ _ _)
        refine AW.callVw (g := cf_Ledger_measureAt) (av := [zI a1, zI 99999]) (b0 := 0) (ci := 8) (idx := 175) (n := 2) (st := []) (by decide +kernel) (fun l hl r hr => c_Ledger_measureAt l hl a1 99999 _ r hr) S_Ledger_wf rfl cal_Ledger_measureAt rfl (zw4 zm_X8_175 zi_yX8_measureAt zs_yX8_measureAt zn_X8) rfl rfl ⟨by decide, by decide, by decide, by decide⟩ (Nat.le_of_ble_eq_true rfl) (Or.inl rfl) (fun v μ3 => AW.kV (?_ : AW _ _ _ _ 40 _ _ _ _ _ _) v)
        refine AW.aload_n (i := 0) (a := 0) (by decide +kernel) rfl (?_ : AW _ _ _ _ 41 _ _ _ _ _ _)
        refine AW.getR (idx := 38) (ci := 8) (k := 4) (r := 0) (by decide +kernel) rfl rfl rfl (?_ : AW _ _ _ _ 44 _ _ _ _ _ _)
        refine AW.getR (idx := 152) (ci := 5) (k := 0) (r := 13) (by decide +kernel) rfl rfl rfl (?_ : AW _ _ _ _ 47 _ _ _ _ _ _)
        refine AW.getR (idx := 179) (ci := 0) (k := 4) (r := 14) (by decide +kernel) rfl rfl rfl (?_ : AW _ _ _ _ 50 _ _ _ _ _ _)
        refine AW.astore_n' (i := 3) (L' := [(3, zR (some 19)), (0, zR (some 0)), (1, zI a1), (2, zI a2)]) (by decide +kernel) (by decide) rfl (?_ : AW _ _ _ _ 51 _ _ _ _ _ _)
        refine AW.aload_n (i := 3) (a := 19) (by decide +kernel) rfl (?_ : AW _ _ _ _ 52 _ _ _ _ _ _)
        refine AW.iload_n (i := 2) (a := a2) (by decide +kernel) rfl (?_ : AW _ _ _ _ 53 _ _ _ _ _ _)
        refine AW.lald (r := 19) (by decide +kernel) rfl (fun x5 => (?_ : AW _ _ _ _ 54 _ _ _ _ _ _))
        refine AW.lconst0 (by decide +kernel) (?_ : AW _ _ _ _ 55 _ _ _ _ _ _)
        refine AW.lcmp_ne (off := 5) (tgt := 61) (by decide +kernel) (by decide +kernel) (by decide) (fun _ => ?_) (fun _ => ?_)
        · refine AW.iconst (n := -1) (by decide +kernel) (?_ : AW _ _ _ _ 60 _ _ _ _ _ _)
          exact AW.reti (by decide +kernel) rfl (by decide) (by decide)
        · refine AW.lconst0 (by decide +kernel) (?_ : AW _ _ _ _ 62 _ _ _ _ _ _)
          refine AW.lstore' (i := 4) (L' := [(4, zJ 0), (3, zR (some 19)), (0, zR (some 0)), (1, zI a1), (2, zI a2)]) (by decide +kernel) (by decide) rfl (?_ : AW _ _ _ _ 64 _ _ _ _ _ _)
          refine AW.iconst (n := 0) (by decide +kernel) (?_ : AW _ _ _ _ 65 _ _ _ _ _ _)
          refine AW.istore' (i := 6) (L' := [(6, zI 0), (4, zJ 0), (3, zR (some 19)), (0, zR (some 0)), (1, zI a1), (2, zI a2)]) (by decide +kernel) (by decide) rfl (?_ : AW _ _ _ _ 67 _ _ _ _ _ _)
          refine AW.sub (L' := [(2, zI a2), (3, zR (some 19)), (4, zJ 0), (6, zI 0)]) [5, 2, 1, 0] rfl ?_
          refine l_Ledger_needed_67 (fun k9 => ?_) zN _ _
          refine AW.lload (i := 4) (a := k9) (by decide +kernel) rfl (?_ : AW _ _ _ _ 90 _ _ _ _ _ _)
          refine AW.l2i (by decide +kernel) (?_ : AW _ _ _ _ 91 _ _ _ _ _ _)
          refine AW.iconst (n := 1) (by decide +kernel) (?_ : AW _ _ _ _ 92 _ _ _ _ _ _)
          refine AW.iadd (by decide +kernel) (?_ : AW _ _ _ _ 93 _ _ _ _ _ _)
          exact AW.reti (by decide +kernel) rfl (by decide) (by decide)
      · refine AW.sub (L' := []) [] rfl ?_
        exact j_Ledger_needed_25 μ1
theorem c_Ledger_needed (l : Launch) (hl : l.stackTraces = false) (a1 : Int) (a2 : Int) (μ : ZMem) (r : ZRes) (h : F_Ledger_needed a1 a2 μ = some r) : ZC l cf_Ledger_needed S_Ledger S_Ledger [zR (some 0), zI a1, zI a2] μ r := ZC.of hl (by decide +kernel) rfl rfl zft_X8_ok (Nat.le_of_ble_eq_true rfl) h (w_Ledger_needed a1 a2 μ)
/-! WeirLedger.reaches(II)I -/
def cf_Ledger_reaches : ZCf := (yX8_reaches, cX8_reaches, 7, some .int, [], 10, 1, 6, zft_X8, none)
theorem cal_Ledger_reaches : zCallee cf_Ledger_reaches 2 := ⟨rfl, zc_yX8_reaches, by decide, by decide, by decide +kernel⟩
theorem thr_Ledger_reaches_8 : zThr cf_Ledger_reaches 8 117 119 zEn "java/lang/IndexOutOfBoundsException" := zThr_of ztw_IndexOutOfBoundsException (by decide +kernel) (by decide +kernel) (by decide +kernel) (by decide +kernel) rfl (by decide)
theorem thr_Ledger_reaches_26 : zThr cf_Ledger_reaches 26 83 85 zEn "java/lang/IllegalArgumentException" := zThr_of ztw_IllegalArgumentException (by decide +kernel) (by decide +kernel) (by decide +kernel) (by decide +kernel) rfl (by decide)
def J_Ledger_reaches_26 (μ : ZMem) : Option ZRes := some (.inl "java/lang/IllegalArgumentException", μ)
set_option maxRecDepth 100000 in
theorem j_Ledger_reaches_26 (μ : ZMem) : AW cf_Ledger_reaches S_Ledger.length S_Ledger S_Ledger 26 [] [] μ 0 0 (J_Ledger_reaches_26 μ) := by
  unfold J_Ledger_reaches_26
  exact AW.throw thr_Ledger_reaches_26 (by decide) (by decide) (by decide)
def J_Ledger_reaches_101 (R : Int → Int → Int → ZMem → Option ZRes) (K : Int → ZMem → Option ZRes) (c1 : Int) (c2 : Int) (u3 : Int) (u4 : Int) (u5 : Int) (μ : ZMem) : Option ZRes := zLet (u5 + 1) (fun x8 => R u3 u4 x8 μ)
set_option maxRecDepth 100000 in
theorem j_Ledger_reaches_101 {R : Int → Int → Int → ZMem → Option ZRes} {K : Int → ZMem → Option ZRes} (c1 : Int) (c2 : Int) (hR : ∀ (v3 : Int) (v4 : Int) (v5 : Int) (μ : ZMem), AW cf_Ledger_reaches S_Ledger.length S_Ledger S_Ledger 43 [(0, zR (some 0)), (1, zI c1), (2, zI c2), (3, zI v3), (4, zI v4), (5, zI v5)] [] μ 0 0 (R v3 v4 v5 μ)) (hK : ∀ (k3 : Int) (μ : ZMem), AW cf_Ledger_reaches S_Ledger.length S_Ledger S_Ledger 107 [(3, zI k3)] [] μ 0 0 (K k3 μ)) (u3 : Int) (u4 : Int) (u5 : Int) (μ : ZMem) : AW cf_Ledger_reaches S_Ledger.length S_Ledger S_Ledger 101 [(0, zR (some 0)), (1, zI c1), (2, zI c2), (3, zI u3), (4, zI u4), (5, zI u5)] [] μ 0 0 (J_Ledger_reaches_101 R K c1 c2 u3 u4 u5 μ) := by
  unfold J_Ledger_reaches_101
  refine AW.iincL (i := 5) (n := 1) (a := u5) (L' := fun x8 => [(5, zI x8), (0, zR (some 0)), (1, zI c1), (2, zI c2), (3, zI u3), (4, zI u4)]) (by decide +kernel) rfl (by decide) (fun _ => rfl) (fun x8 => (?_ : AW _ _ _ _ 104 _ _ _ _ _ _))
  refine AW.goto (off := -61) (tgt := 43) (by decide +kernel) (by decide) ?_
  refine AW.sub (L' := [(0, zR (some 0)), (1, zI c1), (2, zI c2), (3, zI u3), (4, zI u4), (5, zI x8)]) [1, 2, 3, 4, 5, 0] rfl ?_
  exact hR u3 u4 x8 μ
def L_Ledger_reaches_43 (c1 : Int) (c2 : Int) (K : Int → ZMem → Option ZRes) : Nat → Int → Int → Int → ZMem → Option ZRes
  | 0, _, _, _, _ => none
  | n + 1, v3, v4, v5, μ => if w32 20 ≤ w32 v5 then (K v3 μ) else (if w32 v4 ≤ w32 v3 then (K v3 μ) else (zLet (((w32 (v3 + v4)).tdiv (w32 2))) (fun x3 => zC (F_Ledger_measureAt c1 x3 μ) (zkV (fun μ4 => zRd μ4 19 6 4 (fun x6 => if w64 x6 < w64 (w32 c2) then (zLet ((x3 + 1)) (fun x7 => J_Ledger_reaches_101 (fun v3 v4 v5 μ => L_Ledger_reaches_43 c1 c2 K n v3 v4 v5 μ) K c1 c2 x7 v4 v5 μ4)) else (J_Ledger_reaches_101 (fun v3 v4 v5 μ => L_Ledger_reaches_43 c1 c2 K n v3 v4 v5 μ) K c1 c2 v3 x3 v5 μ4)))) zX0)))
set_option maxRecDepth 100000 in
theorem l_Ledger_reaches_43 {c1 : Int} {c2 : Int} {K : Int → ZMem → Option ZRes} (hK : ∀ (k3 : Int) (μ : ZMem), AW cf_Ledger_reaches S_Ledger.length S_Ledger S_Ledger 107 [(3, zI k3)] [] μ 0 0 (K k3 μ)) : ∀ (n : Nat) (v3 : Int) (v4 : Int) (v5 : Int) (μ : ZMem), AW cf_Ledger_reaches S_Ledger.length S_Ledger S_Ledger 43 [(0, zR (some 0)), (1, zI c1), (2, zI c2), (3, zI v3), (4, zI v4), (5, zI v5)] [] μ 0 0 (L_Ledger_reaches_43 c1 c2 K n v3 v4 v5 μ) := by
  intro n
  induction n with
  | zero => intro v3 v4 v5 μ; exact AW.noth
  | succ n ih =>
    intro v3 v4 v5 μ
    rw [L_Ledger_reaches_43]
    refine AW.iload (i := 5) (a := v5) (by decide +kernel) rfl (?_ : AW _ _ _ _ 45 _ _ _ _ _ _)
    refine AW.bipush (n := 20) (by decide +kernel) (by decide +kernel) (?_ : AW _ _ _ _ 47 _ _ _ _ _ _)
    refine AW.icmp_ge (off := 60) (tgt := 107) (by decide +kernel) (by decide) (fun _ => ?_) (fun _ => ?_)
    · refine AW.sub (L' := [(3, zI v3)]) [3] rfl ?_
      exact hK v3 μ
    · refine AW.iload_n (i := 3) (a := v3) (by decide +kernel) rfl (?_ : AW _ _ _ _ 51 _ _ _ _ _ _)
      refine AW.iload (i := 4) (a := v4) (by decide +kernel) rfl (?_ : AW _ _ _ _ 53 _ _ _ _ _ _)
      refine AW.icmp_ge (off := 54) (tgt := 107) (by decide +kernel) (by decide) (fun _ => ?_) (fun _ => ?_)
      · refine AW.sub (L' := [(3, zI v3)]) [3] rfl ?_
        exact hK v3 μ
      · refine AW.iload_n (i := 3) (a := v3) (by decide +kernel) rfl (?_ : AW _ _ _ _ 57 _ _ _ _ _ _)
        refine AW.iload (i := 4) (a := v4) (by decide +kernel) rfl (?_ : AW _ _ _ _ 59 _ _ _ _ _ _)
        refine AW.iadd (by decide +kernel) (?_ : AW _ _ _ _ 60 _ _ _ _ _ _)
        refine AW.iconst (n := 2) (by decide +kernel) (?_ : AW _ _ _ _ 61 _ _ _ _ _ _)
        refine AW.idiv (by decide +kernel) (by decide +kernel) (?_ : AW _ _ _ _ 62 _ _ _ _ _ _)
        refine AW.istoreL (i := 6) (L' := fun x3 => [(6, zI x3), (0, zR (some 0)), (1, zI c1), (2, zI c2), (3, zI v3), (4, zI v4), (5, zI v5)]) (by decide +kernel) (by decide) (fun _ => rfl) (fun x3 => (?_ : AW _ _ _ _ 64 _ _ _ _ _ _))
        refine AW.aload_n (i := 0) (a := 0) (by decide +kernel) rfl (?_ : AW _ _ _ _ 65 _ _ _ _ _ _)
        refine AW.iload_n (i := 1) (a := c1) (by decide +kernel) rfl (?_ : AW _ _ _ _ 66 _ _ _ _ _ _)
        refine AW.iload (i := 6) (a := x3) (by decide +kernel) rfl (?_ : AW _ _ _ _ 68 _ _ _ _ _ _)
        refine AW.callVw (g := cf_Ledger_measureAt) (av := [zI c1, zI x3]) (b0 := 0) (ci := 8) (idx := 175) (n := 2) (st := []) (by decide +kernel) (fun l hl r hr => c_Ledger_measureAt l hl c1 x3 _ r hr) S_Ledger_wf rfl cal_Ledger_measureAt rfl (zw4 zm_X8_175 zi_yX8_measureAt zs_yX8_measureAt zn_X8) rfl rfl ⟨by decide, by decide, by decide, by decide⟩ (Nat.le_of_ble_eq_true rfl) (Or.inl rfl) (fun v μ4 => AW.kV (?_ : AW _ _ _ _ 71 _ _ _ _ _ _) v)
        refine AW.aload_n (i := 0) (a := 0) (by decide +kernel) rfl (?_ : AW _ _ _ _ 72 _ _ _ _ _ _)
        refine AW.getR (idx := 38) (ci := 8) (k := 4) (r := 0) (by decide +kernel) rfl rfl rfl (?_ : AW _ _ _ _ 75 _ _ _ _ _ _)
        refine AW.getR (idx := 152) (ci := 5) (k := 0) (r := 13) (by decide +kernel) rfl rfl rfl (?_ : AW _ _ _ _ 78 _ _ _ _ _ _)
        refine AW.getR (idx := 179) (ci := 0) (k := 4) (r := 14) (by decide +kernel) rfl rfl rfl (?_ : AW _ _ _ _ 81 _ _ _ _ _ _)
        refine AW.iconst (n := 4) (by decide +kernel) (?_ : AW _ _ _ _ 82 _ _ _ _ _ _)
        refine AW.lald (r := 19) (by decide +kernel) rfl (fun x6 => (?_ : AW _ _ _ _ 83 _ _ _ _ _ _))
        refine AW.iload_n (i := 2) (a := c2) (by decide +kernel) rfl (?_ : AW _ _ _ _ 84 _ _ _ _ _ _)
        refine AW.i2l (by decide +kernel) (?_ : AW _ _ _ _ 85 _ _ _ _ _ _)
        refine AW.lcmp_lt (off := 10) (tgt := 96) (by decide +kernel) (by decide +kernel) (by decide) (fun _ => ?_) (fun _ => ?_)
        · refine AW.iload (i := 6) (a := x3) (by decide +kernel) rfl (?_ : AW _ _ _ _ 98 _ _ _ _ _ _)
          refine AW.iconst (n := 1) (by decide +kernel) (?_ : AW _ _ _ _ 99 _ _ _ _ _ _)
          refine AW.iadd (by decide +kernel) (?_ : AW _ _ _ _ 100 _ _ _ _ _ _)
          refine AW.istoreL_n (i := 3) (L' := fun x7 => [(3, zI x7), (6, zI x3), (0, zR (some 0)), (1, zI c1), (2, zI c2), (4, zI v4), (5, zI v5)]) (by decide +kernel) (by decide) (fun _ => rfl) (fun x7 => (?_ : AW _ _ _ _ 101 _ _ _ _ _ _))
          refine AW.sub (L' := [(0, zR (some 0)), (1, zI c1), (2, zI c2), (3, zI x7), (4, zI v4), (5, zI v5)]) [2, 3, 4, 0, 5, 6] rfl ?_
          exact j_Ledger_reaches_101 c1 c2 ih hK x7 v4 v5 μ4
        · refine AW.iload (i := 6) (a := x3) (by decide +kernel) rfl (?_ : AW _ _ _ _ 91 _ _ _ _ _ _)
          refine AW.istore' (i := 4) (L' := [(4, zI x3), (6, zI x3), (0, zR (some 0)), (1, zI c1), (2, zI c2), (3, zI v3), (5, zI v5)]) (by decide +kernel) (by decide) rfl (?_ : AW _ _ _ _ 93 _ _ _ _ _ _)
          refine AW.goto (off := 8) (tgt := 101) (by decide +kernel) (by decide) ?_
          refine AW.sub (L' := [(0, zR (some 0)), (1, zI c1), (2, zI c2), (3, zI v3), (4, zI x3), (5, zI v5)]) [2, 3, 4, 5, 0, 6] rfl ?_
          exact j_Ledger_reaches_101 c1 c2 ih hK v3 x3 v5 μ4
def F_Ledger_reaches (a1 : Int) (a2 : Int) (μ : ZMem) : Option ZRes := zC (F_Ledger_isDealOrNone a1 μ) (zkI (fun x2 μ1 => if w32 x2 = 0 then (some (.inl "java/lang/IndexOutOfBoundsException", μ1)) else (if w32 a2 < 0 then (J_Ledger_reaches_26 μ1) else (if w32 a2 ≤ w32 99999 then (L_Ledger_reaches_43 a1 a2 (fun k10 μ9 => if w32 k10 ≤ w32 99999 then (some (.inr (some (zI k10)), μ9)) else (some (.inr (some (zI (-1))), μ9))) zN 0 100000 0 μ1) else (J_Ledger_reaches_26 μ1))))) zX0
set_option maxRecDepth 100000 in
theorem w_Ledger_reaches (a1 : Int) (a2 : Int) (μ : ZMem) : AW cf_Ledger_reaches S_Ledger.length S_Ledger S_Ledger 0 [(0, zR (some 0)), (1, zI a1), (2, zI a2)] [] μ 0 0 (F_Ledger_reaches a1 a2 μ) := by
  unfold F_Ledger_reaches
  refine AW.aload_n (i := 0) (a := 0) (by decide +kernel) rfl (?_ : AW _ _ _ _ 1 _ _ _ _ _ _)
  refine AW.iload_n (i := 1) (a := a1) (by decide +kernel) rfl (?_ : AW _ _ _ _ 2 _ _ _ _ _ _)
  refine AW.callVw (g := cf_Ledger_isDealOrNone) (av := [zI a1]) (b0 := 0) (ci := 8) (idx := 171) (n := 1) (st := []) (by decide +kernel) (fun l hl r hr => c_Ledger_isDealOrNone l hl a1 _ r hr) S_Ledger_wf rfl cal_Ledger_isDealOrNone rfl (zw4 zm_X8_171 zi_yX8_isDealOrNone zs_yX8_isDealOrNone zn_X8) rfl rfl ⟨by decide, by decide, by decide, by decide⟩ (Nat.le_of_ble_eq_true rfl) (Or.inl rfl) (fun v μ1 => AW.kI (fun x2 => (?_ : AW _ _ _ _ 5 _ _ _ _ _ _)) v)
  refine AW.if_ne (off := 11) (tgt := 16) (by decide +kernel) (by decide) (fun _ => ?_) (fun _ => ?_)
  · exact AW.throw thr_Ledger_reaches_8 (by decide) (by decide) (by decide)
  · refine AW.iload_n (i := 2) (a := a2) (by decide +kernel) rfl (?_ : AW _ _ _ _ 17 _ _ _ _ _ _)
    refine AW.if_lt (off := 9) (tgt := 26) (by decide +kernel) (by decide) (fun _ => ?_) (fun _ => ?_)
    · refine AW.sub (L' := []) [] rfl ?_
      exact j_Ledger_reaches_26 μ1
    · refine AW.iload_n (i := 2) (a := a2) (by decide +kernel) rfl (?_ : AW _ _ _ _ 21 _ _ _ _ _ _)
      refine AW.ldci (idx := 174) (v := 99999) (by decide +kernel) zk_X8_174 (?_ : AW _ _ _ _ 23 _ _ _ _ _ _)
      refine AW.icmp_le (off := 11) (tgt := 34) (by decide +kernel) (by decide) (fun _ => ?_) (fun _ => ?_)
      · refine AW.iconst (n := 0) (by decide +kernel) (?_ : AW _ _ _ _ 35 _ _ _ _ _ _)
        refine AW.istore_n' (i := 3) (L' := [(3, zI 0), (0, zR (some 0)), (1, zI a1), (2, zI a2)]) (by decide +kernel) (by decide) rfl (?_ : AW _ _ _ _ 36 _ _ _ _ _ _)
        refine AW.ldci (idx := 182) (v := 100000) (by decide +kernel) zk_X8_182 (?_ : AW _ _ _ _ 38 _ _ _ _ _ _)
        refine AW.istore' (i := 4) (L' := [(4, zI 100000), (3, zI 0), (0, zR (some 0)), (1, zI a1), (2, zI a2)]) (by decide +kernel) (by decide) rfl (?_ : AW _ _ _ _ 40 _ _ _ _ _ _)
        refine AW.iconst (n := 0) (by decide +kernel) (?_ : AW _ _ _ _ 41 _ _ _ _ _ _)
        refine AW.istore' (i := 5) (L' := [(5, zI 0), (4, zI 100000), (3, zI 0), (0, zR (some 0)), (1, zI a1), (2, zI a2)]) (by decide +kernel) (by decide) rfl (?_ : AW _ _ _ _ 43 _ _ _ _ _ _)
        refine AW.sub (L' := [(0, zR (some 0)), (1, zI a1), (2, zI a2), (3, zI 0), (4, zI 100000), (5, zI 0)]) [3, 4, 5, 2, 1, 0] rfl ?_
        refine l_Ledger_reaches_43 (fun k10 μ9 => ?_) zN _ _ _ _
        refine AW.iload_n (i := 3) (a := k10) (by decide +kernel) rfl (?_ : AW _ _ _ _ 108 _ _ _ _ _ _)
        refine AW.ldci (idx := 174) (v := 99999) (by decide +kernel) zk_X8_174 (?_ : AW _ _ _ _ 110 _ _ _ _ _ _)
        refine AW.icmp_le (off := 7) (tgt := 117) (by decide +kernel) (by decide) (fun _ => ?_) (fun _ => ?_)
        · refine AW.iload_n (i := 3) (a := k10) (by decide +kernel) rfl (?_ : AW _ _ _ _ 118 _ _ _ _ _ _)
          exact AW.reti (by decide +kernel) rfl (by decide) (by decide)
        · refine AW.iconst (n := -1) (by decide +kernel) (?_ : AW _ _ _ _ 114 _ _ _ _ _ _)
          refine AW.goto (off := 4) (tgt := 118) (by decide +kernel) (by decide) ?_
          exact AW.reti (by decide +kernel) rfl (by decide) (by decide)
      · refine AW.sub (L' := []) [] rfl ?_
        exact j_Ledger_reaches_26 μ1
theorem c_Ledger_reaches (l : Launch) (hl : l.stackTraces = false) (a1 : Int) (a2 : Int) (μ : ZMem) (r : ZRes) (h : F_Ledger_reaches a1 a2 μ = some r) : ZC l cf_Ledger_reaches S_Ledger S_Ledger [zR (some 0), zI a1, zI a2] μ r := ZC.of hl (by decide +kernel) rfl rfl zft_X8_ok (Nat.le_of_ble_eq_true rfl) h (w_Ledger_reaches a1 a2 μ)
/-! WeirLedger.share(III)I -/
def cf_Ledger_share : ZCf := (yX8_share, cX8_share, 4, some .int, [], 10, 1, 6, zft_X8, none)
theorem cal_Ledger_share : zCallee cf_Ledger_share 3 := ⟨rfl, zc_yX8_share, by decide, by decide, by decide +kernel⟩
theorem thr_Ledger_share_16 : zThr cf_Ledger_share 16 117 119 zEn "java/lang/IndexOutOfBoundsException" := zThr_of ztw_IndexOutOfBoundsException (by decide +kernel) (by decide +kernel) (by decide +kernel) (by decide +kernel) rfl (by decide)
theorem thr_Ledger_share_34 : zThr cf_Ledger_share 34 83 85 zEn "java/lang/IllegalArgumentException" := zThr_of ztw_IllegalArgumentException (by decide +kernel) (by decide +kernel) (by decide +kernel) (by decide +kernel) rfl (by decide)
def J_Ledger_share_16 (μ : ZMem) : Option ZRes := some (.inl "java/lang/IndexOutOfBoundsException", μ)
set_option maxRecDepth 100000 in
theorem j_Ledger_share_16 (μ : ZMem) : AW cf_Ledger_share S_Ledger.length S_Ledger S_Ledger 16 [] [] μ 0 0 (J_Ledger_share_16 μ) := by
  unfold J_Ledger_share_16
  exact AW.throw thr_Ledger_share_16 (by decide) (by decide) (by decide)
def J_Ledger_share_34 (μ : ZMem) : Option ZRes := some (.inl "java/lang/IllegalArgumentException", μ)
set_option maxRecDepth 100000 in
theorem j_Ledger_share_34 (μ : ZMem) : AW cf_Ledger_share S_Ledger.length S_Ledger S_Ledger 34 [] [] μ 0 0 (J_Ledger_share_34 μ) := by
  unfold J_Ledger_share_34
  exact AW.throw thr_Ledger_share_34 (by decide) (by decide) (by decide)
def F_Ledger_share (a1 : Int) (a2 : Int) (a3 : Int) (μ : ZMem) : Option ZRes := zC (F_Ledger_isInvestor a1 μ) (zkI (fun x2 μ1 => if w32 x2 = 0 then (J_Ledger_share_16 μ1) else (zC (F_Ledger_isDealOrNone a2 μ1) (zkI (fun x4 μ3 => if w32 x4 = 0 then (J_Ledger_share_16 μ3) else (if w32 a3 < 0 then (J_Ledger_share_34 μ3) else (if w32 a3 ≤ w32 99999 then (zCm [20, 21, 22, 23, 24, 25, 26, 27, 28] μ3 (F_Register_weighFor a2 (zVw [20, 21, 22, 23, 24, 25, 26, 27, 28] μ3)) (zkV (fun μ5 => zCm [20, 21, 22, 23, 24, 25, 26, 27, 28] μ5 (F_Register_split (w32 a3) (zVw [20, 21, 22, 23, 24, 25, 26, 27, 28] μ5)) (zkV (fun μ7 => zRd μ7 27 6 a1 (fun x9 => some (.inr (some (zI x9)), μ7)))) zX0)) zX0) else (J_Ledger_share_34 μ3))))) zX0))) zX0
set_option maxRecDepth 100000 in
theorem w_Ledger_share (a1 : Int) (a2 : Int) (a3 : Int) (μ : ZMem) : AW cf_Ledger_share S_Ledger.length S_Ledger S_Ledger 0 [(0, zR (some 0)), (1, zI a1), (2, zI a2), (3, zI a3)] [] μ 0 0 (F_Ledger_share a1 a2 a3 μ) := by
  unfold F_Ledger_share
  refine AW.aload_n (i := 0) (a := 0) (by decide +kernel) rfl (?_ : AW _ _ _ _ 1 _ _ _ _ _ _)
  refine AW.iload_n (i := 1) (a := a1) (by decide +kernel) rfl (?_ : AW _ _ _ _ 2 _ _ _ _ _ _)
  refine AW.callVw (g := cf_Ledger_isInvestor) (av := [zI a1]) (b0 := 0) (ci := 8) (idx := 113) (n := 1) (st := []) (by decide +kernel) (fun l hl r hr => c_Ledger_isInvestor l hl a1 _ r hr) S_Ledger_wf rfl cal_Ledger_isInvestor rfl (zw4 zm_X8_113 zi_yX8_isInvestor zs_yX8_isInvestor zn_X8) rfl rfl ⟨by decide, by decide, by decide, by decide⟩ (Nat.le_of_ble_eq_true rfl) (Or.inl rfl) (fun v μ1 => AW.kI (fun x2 => (?_ : AW _ _ _ _ 5 _ _ _ _ _ _)) v)
  refine AW.if_eq (off := 11) (tgt := 16) (by decide +kernel) (by decide) (fun _ => ?_) (fun _ => ?_)
  · refine AW.sub (L' := []) [] rfl ?_
    exact j_Ledger_share_16 μ1
  · refine AW.aload_n (i := 0) (a := 0) (by decide +kernel) rfl (?_ : AW _ _ _ _ 9 _ _ _ _ _ _)
    refine AW.iload_n (i := 2) (a := a2) (by decide +kernel) rfl (?_ : AW _ _ _ _ 10 _ _ _ _ _ _)
    refine AW.callVw (g := cf_Ledger_isDealOrNone) (av := [zI a2]) (b0 := 0) (ci := 8) (idx := 171) (n := 1) (st := []) (by decide +kernel) (fun l hl r hr => c_Ledger_isDealOrNone l hl a2 _ r hr) S_Ledger_wf rfl cal_Ledger_isDealOrNone rfl (zw4 zm_X8_171 zi_yX8_isDealOrNone zs_yX8_isDealOrNone zn_X8) rfl rfl ⟨by decide, by decide, by decide, by decide⟩ (Nat.le_of_ble_eq_true rfl) (Or.inl rfl) (fun v μ3 => AW.kI (fun x4 => (?_ : AW _ _ _ _ 13 _ _ _ _ _ _)) v)
    refine AW.if_ne (off := 11) (tgt := 24) (by decide +kernel) (by decide) (fun _ => ?_) (fun _ => ?_)
    · refine AW.sub (L' := []) [] rfl ?_
      exact j_Ledger_share_16 μ3
    · refine AW.iload_n (i := 3) (a := a3) (by decide +kernel) rfl (?_ : AW _ _ _ _ 25 _ _ _ _ _ _)
      refine AW.if_lt (off := 9) (tgt := 34) (by decide +kernel) (by decide) (fun _ => ?_) (fun _ => ?_)
      · refine AW.sub (L' := []) [] rfl ?_
        exact j_Ledger_share_34 μ3
      · refine AW.iload_n (i := 3) (a := a3) (by decide +kernel) rfl (?_ : AW _ _ _ _ 29 _ _ _ _ _ _)
        refine AW.ldci (idx := 174) (v := 99999) (by decide +kernel) zk_X8_174 (?_ : AW _ _ _ _ 31 _ _ _ _ _ _)
        refine AW.icmp_le (off := 11) (tgt := 42) (by decide +kernel) (by decide) (fun _ => ?_) (fun _ => ?_)
        · refine AW.aload_n (i := 0) (a := 0) (by decide +kernel) rfl (?_ : AW _ _ _ _ 43 _ _ _ _ _ _)
          refine AW.getR (idx := 38) (ci := 8) (k := 4) (r := 0) (by decide +kernel) rfl rfl rfl (?_ : AW _ _ _ _ 46 _ _ _ _ _ _)
          refine AW.getR (idx := 120) (ci := 5) (k := 1) (r := 13) (by decide +kernel) rfl rfl rfl (?_ : AW _ _ _ _ 49 _ _ _ _ _ _)
          refine AW.iload_n (i := 2) (a := a2) (by decide +kernel) rfl (?_ : AW _ _ _ _ 50 _ _ _ _ _ _)
          refine AW.callVm (g := cf_Register_weighFor) (Sg := S_Register2) (pl := [20, 21, 22, 23, 24, 25, 26, 27, 28]) (av := [zI a2]) (b0 := 0) (ci := 4) (idx := 183) (n := 1) (st := []) (by decide +kernel) (fun l hl r hr => c_Register_weighFor l hl a2 _ r hr) sb_51 rfl cal_Register_weighFor rfl (zw4 zm_X8_183 zi_yX4_weighFor zs_yX4_weighFor zn_X4) rfl rfl ⟨by decide, by decide, by decide, by decide⟩ (Nat.le_of_ble_eq_true rfl) (Or.inl rfl) (fun v μ5 => AW.rV (?_ : AW _ _ _ _ 53 _ _ _ _ _ _) v)
          refine AW.aload_n (i := 0) (a := 0) (by decide +kernel) rfl (?_ : AW _ _ _ _ 54 _ _ _ _ _ _)
          refine AW.getR (idx := 38) (ci := 8) (k := 4) (r := 0) (by decide +kernel) rfl rfl rfl (?_ : AW _ _ _ _ 57 _ _ _ _ _ _)
          refine AW.getR (idx := 120) (ci := 5) (k := 1) (r := 13) (by decide +kernel) rfl rfl rfl (?_ : AW _ _ _ _ 60 _ _ _ _ _ _)
          refine AW.iload_n (i := 3) (a := a3) (by decide +kernel) rfl (?_ : AW _ _ _ _ 61 _ _ _ _ _ _)
          refine AW.i2l (by decide +kernel) (?_ : AW _ _ _ _ 62 _ _ _ _ _ _)
          refine AW.callVm (g := cf_Register_split) (Sg := S_Register2) (pl := [20, 21, 22, 23, 24, 25, 26, 27, 28]) (av := [zJ (w32 a3)]) (b0 := 0) (ci := 4) (idx := 186) (n := 1) (st := []) (by decide +kernel) (fun l hl r hr => c_Register_split l hl (w32 a3) _ r hr) sb_51 rfl cal_Register_split rfl (zw4 zm_X8_186 zi_yX4_split zs_yX4_split zn_X4) rfl rfl ⟨by decide, by decide, by decide, by decide⟩ (Nat.le_of_ble_eq_true rfl) (Or.inl rfl) (fun v μ7 => AW.rV (?_ : AW _ _ _ _ 65 _ _ _ _ _ _) v)
          refine AW.aload_n (i := 0) (a := 0) (by decide +kernel) rfl (?_ : AW _ _ _ _ 66 _ _ _ _ _ _)
          refine AW.getR (idx := 38) (ci := 8) (k := 4) (r := 0) (by decide +kernel) rfl rfl rfl (?_ : AW _ _ _ _ 69 _ _ _ _ _ _)
          refine AW.getR (idx := 120) (ci := 5) (k := 1) (r := 13) (by decide +kernel) rfl rfl rfl (?_ : AW _ _ _ _ 72 _ _ _ _ _ _)
          refine AW.getR (idx := 190) (ci := 4) (k := 6) (r := 20) (by decide +kernel) rfl rfl rfl (?_ : AW _ _ _ _ 75 _ _ _ _ _ _)
          refine AW.iload_n (i := 1) (a := a1) (by decide +kernel) rfl (?_ : AW _ _ _ _ 76 _ _ _ _ _ _)
          refine AW.lald (r := 27) (by decide +kernel) rfl (fun x9 => (?_ : AW _ _ _ _ 77 _ _ _ _ _ _))
          refine AW.l2i (by decide +kernel) (?_ : AW _ _ _ _ 78 _ _ _ _ _ _)
          exact AW.reti (by decide +kernel) rfl (by decide) (by decide)
        · refine AW.sub (L' := []) [] rfl ?_
          exact j_Ledger_share_34 μ3
theorem c_Ledger_share (l : Launch) (hl : l.stackTraces = false) (a1 : Int) (a2 : Int) (a3 : Int) (μ : ZMem) (r : ZRes) (h : F_Ledger_share a1 a2 a3 μ = some r) : ZC l cf_Ledger_share S_Ledger S_Ledger [zR (some 0), zI a1, zI a2, zI a3] μ r := ZC.of hl (by decide +kernel) rfl rfl zft_X8_ok (Nat.le_of_ble_eq_true rfl) h (w_Ledger_share a1 a2 a3 μ)
/-! WeirLedger.claw()J -/
def cf_Ledger_claw : ZCf := (yX8_claw, cX8_claw, 1, some .long, [], 4, 0, 0, zft_X8, none)
theorem cal_Ledger_claw : zCallee cf_Ledger_claw 0 := ⟨rfl, zc_yX8_claw, by decide, by decide, by decide +kernel⟩
def F_Ledger_claw (μ : ZMem) : Option ZRes := zCm [14, 15, 16, 17, 18, 19] μ (F_Books_clawDue  (zVw [14, 15, 16, 17, 18, 19] μ)) (zkJ (fun x2 μ1 => some (.inr (some (zJ x2)), μ1))) zX0
set_option maxRecDepth 100000 in
theorem w_Ledger_claw (μ : ZMem) : AW cf_Ledger_claw S_Ledger.length S_Ledger S_Ledger 0 [(0, zR (some 0))] [] μ 0 0 (F_Ledger_claw μ) := by
  unfold F_Ledger_claw
  refine AW.aload_n (i := 0) (a := 0) (by decide +kernel) rfl (?_ : AW _ _ _ _ 1 _ _ _ _ _ _)
  refine AW.getR (idx := 38) (ci := 8) (k := 4) (r := 0) (by decide +kernel) rfl rfl rfl (?_ : AW _ _ _ _ 4 _ _ _ _ _ _)
  refine AW.getR (idx := 152) (ci := 5) (k := 0) (r := 13) (by decide +kernel) rfl rfl rfl (?_ : AW _ _ _ _ 7 _ _ _ _ _ _)
  refine AW.callVm (g := cf_Books_clawDue) (Sg := S_Books3) (pl := [14, 15, 16, 17, 18, 19]) (av := []) (b0 := 0) (ci := 0) (idx := 193) (n := 0) (st := []) (by decide +kernel) (fun l hl r hr => c_Books_clawDue l hl  _ r hr) sb_52 rfl cal_Books_clawDue rfl (zw4 zm_X8_193 zi_yX0_clawDue zs_yX0_clawDue zn_X0) rfl rfl ⟨by decide, by decide, by decide, by decide⟩ (Nat.le_of_ble_eq_true rfl) (Or.inl rfl) (fun v μ1 => AW.rJ (fun x2 => (?_ : AW _ _ _ _ 10 _ _ _ _ _ _)) v)
  exact AW.retl (by decide +kernel) rfl (by decide) (by decide)
theorem c_Ledger_claw (l : Launch) (hl : l.stackTraces = false) (μ : ZMem) (r : ZRes) (h : F_Ledger_claw μ = some r) : ZC l cf_Ledger_claw S_Ledger S_Ledger [zR (some 0)] μ r := ZC.of hl (by decide +kernel) rfl rfl zft_X8_ok (Nat.le_of_ble_eq_true rfl) h (w_Ledger_claw μ)
theorem sb_53 : zSub S_Ledger [103, 104, 105, 106, 107, 108, 14, 15, 16, 17, 18, 19] S_Books2 := ⟨rfl, by decide +kernel, by decide +kernel, rfl⟩
theorem sb_54 : zSub S_Ledger [103, 104, 105, 106, 107, 108] S_Books3 := ⟨rfl, by decide +kernel, by decide +kernel, rfl⟩
/-! WeirLedger.soldOut(I)J -/
def cf_Ledger_soldOut : ZCf := (yX8_soldOut, cX8_soldOut, 4, some .long, [], 10, 1, 6, zft_X8, none)
theorem cal_Ledger_soldOut : zCallee cf_Ledger_soldOut 1 := ⟨rfl, zc_yX8_soldOut, by decide, by decide, by decide +kernel⟩
theorem thr_Ledger_soldOut_9 : zThr cf_Ledger_soldOut 9 106 108 zEn "java/util/NoSuchElementException" := zThr_of ztw_NoSuchElementException (by decide +kernel) (by decide +kernel) (by decide +kernel) (by decide +kernel) rfl (by decide)
def J_Ledger_soldOut_9 (μ : ZMem) : Option ZRes := some (.inl "java/util/NoSuchElementException", μ)
set_option maxRecDepth 100000 in
theorem j_Ledger_soldOut_9 (μ : ZMem) : AW cf_Ledger_soldOut S_Ledger.length S_Ledger S_Ledger 9 [] [] μ 0 0 (J_Ledger_soldOut_9 μ) := by
  unfold J_Ledger_soldOut_9
  exact AW.throw thr_Ledger_soldOut_9 (by decide) (by decide) (by decide)
def F_Ledger_soldOut (a1 : Int) (μ : ZMem) : Option ZRes := if w32 a1 < 0 then (J_Ledger_soldOut_9 μ) else (if w32 a1 ≤ w32 2 then (zCm [103, 104, 105, 106, 107, 108, 14, 15, 16, 17, 18, 19] μ (F_Books_copyFrom  (zVw [103, 104, 105, 106, 107, 108, 14, 15, 16, 17, 18, 19] μ)) (zkV (fun μ1 => zCm [103, 104, 105, 106, 107, 108] μ1 (F_Books_sellAll  (zVw [103, 104, 105, 106, 107, 108] μ1)) (zkJ (fun x4 μ3 => if w32 a1 = 0 then (zRd μ3 107 4 0 (fun x5 => some (.inr (some (zJ x5)), μ3))) else (if w32 a1 = w32 1 then (zCm [103, 104, 105, 106, 107, 108] μ3 (F_Books_clawDue  (zVw [103, 104, 105, 106, 107, 108] μ3)) (zkJ (fun x7 μ6 => some (.inr (some (zJ x7)), μ6))) zX0) else (some (.inr (some (zJ ((μ3 20 10) + x4))), μ3))))) zX0)) zX0) else (J_Ledger_soldOut_9 μ))
set_option maxRecDepth 100000 in
theorem w_Ledger_soldOut (a1 : Int) (μ : ZMem) : AW cf_Ledger_soldOut S_Ledger.length S_Ledger S_Ledger 0 [(0, zR (some 0)), (1, zI a1)] [] μ 0 0 (F_Ledger_soldOut a1 μ) := by
  unfold F_Ledger_soldOut
  refine AW.iload_n (i := 1) (a := a1) (by decide +kernel) rfl (?_ : AW _ _ _ _ 1 _ _ _ _ _ _)
  refine AW.if_lt (off := 8) (tgt := 9) (by decide +kernel) (by decide) (fun _ => ?_) (fun _ => ?_)
  · refine AW.sub (L' := []) [] rfl ?_
    exact j_Ledger_soldOut_9 μ
  · refine AW.iload_n (i := 1) (a := a1) (by decide +kernel) rfl (?_ : AW _ _ _ _ 5 _ _ _ _ _ _)
    refine AW.iconst (n := 2) (by decide +kernel) (?_ : AW _ _ _ _ 6 _ _ _ _ _ _)
    refine AW.icmp_le (off := 11) (tgt := 17) (by decide +kernel) (by decide) (fun _ => ?_) (fun _ => ?_)
    · refine AW.aload_n (i := 0) (a := 0) (by decide +kernel) rfl (?_ : AW _ _ _ _ 18 _ _ _ _ _ _)
      refine AW.getR (idx := 59) (ci := 8) (k := 8) (r := 0) (by decide +kernel) rfl rfl rfl (?_ : AW _ _ _ _ 21 _ _ _ _ _ _)
      refine AW.aload_n (i := 0) (a := 0) (by decide +kernel) rfl (?_ : AW _ _ _ _ 22 _ _ _ _ _ _)
      refine AW.getR (idx := 38) (ci := 8) (k := 4) (r := 0) (by decide +kernel) rfl rfl rfl (?_ : AW _ _ _ _ 25 _ _ _ _ _ _)
      refine AW.getR (idx := 152) (ci := 5) (k := 0) (r := 13) (by decide +kernel) rfl rfl rfl (?_ : AW _ _ _ _ 28 _ _ _ _ _ _)
      refine AW.callVm (g := cf_Books_copyFrom) (Sg := S_Books2) (pl := [103, 104, 105, 106, 107, 108, 14, 15, 16, 17, 18, 19]) (av := [zR (some 6)]) (b0 := 0) (ci := 0) (idx := 197) (n := 1) (st := []) (by decide +kernel) (fun l hl r hr => c_Books_copyFrom l hl  _ r hr) sb_53 rfl cal_Books_copyFrom rfl (zw4 zm_X8_197 zi_yX0_copyFrom zs_yX0_copyFrom zn_X0) rfl rfl ⟨by decide, by decide, by decide, by decide⟩ (Nat.le_of_ble_eq_true rfl) (Or.inl rfl) (fun v μ1 => AW.rV (?_ : AW _ _ _ _ 31 _ _ _ _ _ _) v)
      refine AW.aload_n (i := 0) (a := 0) (by decide +kernel) rfl (?_ : AW _ _ _ _ 32 _ _ _ _ _ _)
      refine AW.getR (idx := 59) (ci := 8) (k := 8) (r := 0) (by decide +kernel) rfl rfl rfl (?_ : AW _ _ _ _ 35 _ _ _ _ _ _)
      refine AW.callVm (g := cf_Books_sellAll) (Sg := S_Books3) (pl := [103, 104, 105, 106, 107, 108]) (av := []) (b0 := 0) (ci := 0) (idx := 200) (n := 0) (st := []) (by decide +kernel) (fun l hl r hr => c_Books_sellAll l hl  _ r hr) sb_54 rfl cal_Books_sellAll rfl (zw4 zm_X8_200 zi_yX0_sellAll zs_yX0_sellAll zn_X0) rfl rfl ⟨by decide, by decide, by decide, by decide⟩ (Nat.le_of_ble_eq_true rfl) (Or.inl rfl) (fun v μ3 => AW.rJ (fun x4 => (?_ : AW _ _ _ _ 38 _ _ _ _ _ _)) v)
      refine AW.lstore_n' (i := 2) (L' := [(2, zJ x4), (0, zR (some 0)), (1, zI a1)]) (by decide +kernel) (by decide) rfl (?_ : AW _ _ _ _ 39 _ _ _ _ _ _)
      refine AW.iload_n (i := 1) (a := a1) (by decide +kernel) rfl (?_ : AW _ _ _ _ 40 _ _ _ _ _ _)
      refine AW.if_ne (off := 13) (tgt := 53) (by decide +kernel) (by decide) (fun _ => ?_) (fun _ => ?_)
      · refine AW.aload_n (i := 0) (a := 0) (by decide +kernel) rfl (?_ : AW _ _ _ _ 44 _ _ _ _ _ _)
        refine AW.getR (idx := 59) (ci := 8) (k := 8) (r := 0) (by decide +kernel) rfl rfl rfl (?_ : AW _ _ _ _ 47 _ _ _ _ _ _)
        refine AW.getR (idx := 161) (ci := 0) (k := 3) (r := 103) (by decide +kernel) rfl rfl rfl (?_ : AW _ _ _ _ 50 _ _ _ _ _ _)
        refine AW.iconst (n := 0) (by decide +kernel) (?_ : AW _ _ _ _ 51 _ _ _ _ _ _)
        refine AW.lald (r := 107) (by decide +kernel) rfl (fun x5 => (?_ : AW _ _ _ _ 52 _ _ _ _ _ _))
        exact AW.retl (by decide +kernel) rfl (by decide) (by decide)
      · refine AW.iload_n (i := 1) (a := a1) (by decide +kernel) rfl (?_ : AW _ _ _ _ 54 _ _ _ _ _ _)
        refine AW.iconst (n := 1) (by decide +kernel) (?_ : AW _ _ _ _ 55 _ _ _ _ _ _)
        refine AW.icmp_ne (off := 13) (tgt := 68) (by decide +kernel) (by decide) (fun _ => ?_) (fun _ => ?_)
        · refine AW.aload_n (i := 0) (a := 0) (by decide +kernel) rfl (?_ : AW _ _ _ _ 59 _ _ _ _ _ _)
          refine AW.getR (idx := 59) (ci := 8) (k := 8) (r := 0) (by decide +kernel) rfl rfl rfl (?_ : AW _ _ _ _ 62 _ _ _ _ _ _)
          refine AW.callVm (g := cf_Books_clawDue) (Sg := S_Books3) (pl := [103, 104, 105, 106, 107, 108]) (av := []) (b0 := 0) (ci := 0) (idx := 193) (n := 0) (st := []) (by decide +kernel) (fun l hl r hr => c_Books_clawDue l hl  _ r hr) sb_54 rfl cal_Books_clawDue rfl (zw4 zm_X8_193 zi_yX0_clawDue zs_yX0_clawDue zn_X0) rfl rfl ⟨by decide, by decide, by decide, by decide⟩ (Nat.le_of_ble_eq_true rfl) (Or.inl rfl) (fun v μ6 => AW.rJ (fun x7 => (?_ : AW _ _ _ _ 65 _ _ _ _ _ _)) v)
          refine AW.goto (off := 15) (tgt := 80) (by decide +kernel) (by decide) ?_
          exact AW.retl (by decide +kernel) rfl (by decide) (by decide)
        · refine AW.aload_n (i := 0) (a := 0) (by decide +kernel) rfl (?_ : AW _ _ _ _ 69 _ _ _ _ _ _)
          refine AW.getR (idx := 38) (ci := 8) (k := 4) (r := 0) (by decide +kernel) rfl rfl rfl (?_ : AW _ _ _ _ 72 _ _ _ _ _ _)
          refine AW.getR (idx := 120) (ci := 5) (k := 1) (r := 13) (by decide +kernel) rfl rfl rfl (?_ : AW _ _ _ _ 75 _ _ _ _ _ _)
          refine AW.getJ (idx := 203) (ci := 4) (k := 10) (r := 20) (by decide +kernel) rfl rfl rfl (?_ : AW _ _ _ _ 78 _ _ _ _ _ _)
          refine AW.lload_n (i := 2) (a := x4) (by decide +kernel) rfl (?_ : AW _ _ _ _ 79 _ _ _ _ _ _)
          refine AW.ladd (by decide +kernel) (?_ : AW _ _ _ _ 80 _ _ _ _ _ _)
          exact AW.retl (by decide +kernel) rfl (by decide) (by decide)
    · refine AW.sub (L' := []) [] rfl ?_
      exact j_Ledger_soldOut_9 μ
theorem c_Ledger_soldOut (l : Launch) (hl : l.stackTraces = false) (a1 : Int) (μ : ZMem) (r : ZRes) (h : F_Ledger_soldOut a1 μ = some r) : ZC l cf_Ledger_soldOut S_Ledger S_Ledger [zR (some 0), zI a1] μ r := ZC.of hl (by decide +kernel) rfl rfl zft_X8_ok (Nat.le_of_ble_eq_true rfl) h (w_Ledger_soldOut a1 μ)
theorem sb_55 : zSub S_Ledger [51, 52, 53, 54, 55, 56, 57, 58, 59, 60, 61, 62, 63, 64, 65, 66, 67, 68, 69, 70, 71, 72, 73, 74, 75, 76, 77, 78, 79, 80, 81, 82, 83, 84, 85, 86, 87, 88, 89, 90, 91, 92, 93, 94, 95, 96, 14, 15, 16, 17, 18, 19] S_Orders := ⟨rfl, by decide +kernel, by decide +kernel, rfl⟩
/-! WeirLedger.order(I)J -/
def cf_Ledger_order : ZCf := (yX8_order, cX8_order, 2, some .long, [], 12, 0, 0, zft_X8, none)
theorem cal_Ledger_order : zCallee cf_Ledger_order 1 := ⟨rfl, zc_yX8_order, by decide, by decide, by decide +kernel⟩
def J_Ledger_order_42 (μ : ZMem) : Option ZRes := some (.inr (some (zJ (-1))), μ)
set_option maxRecDepth 100000 in
theorem j_Ledger_order_42 (μ : ZMem) : AW cf_Ledger_order S_Ledger.length S_Ledger S_Ledger 42 [] [] μ 0 0 (J_Ledger_order_42 μ) := by
  unfold J_Ledger_order_42
  refine AW.ldc2 (idx := 214) (v := -1) (by decide +kernel) zk_X8_214 (?_ : AW _ _ _ _ 45 _ _ _ _ _ _)
  refine AW.goto (off := 13) (tgt := 58) (by decide +kernel) (by decide) ?_
  exact AW.retl (by decide +kernel) rfl (by decide) (by decide)
def F_Ledger_order (a1 : Int) (μ : ZMem) : Option ZRes := zCm [51, 52, 53, 54, 55, 56, 57, 58, 59, 60, 61, 62, 63, 64, 65, 66, 67, 68, 69, 70, 71, 72, 73, 74, 75, 76, 77, 78, 79, 80, 81, 82, 83, 84, 85, 86, 87, 88, 89, 90, 91, 92, 93, 94, 95, 96, 14, 15, 16, 17, 18, 19] μ (F_Orders_search  (zVw [51, 52, 53, 54, 55, 56, 57, 58, 59, 60, 61, 62, 63, 64, 65, 66, 67, 68, 69, 70, 71, 72, 73, 74, 75, 76, 77, 78, 79, 80, 81, 82, 83, 84, 85, 86, 87, 88, 89, 90, 91, 92, 93, 94, 95, 96, 14, 15, 16, 17, 18, 19] μ)) (zkV (fun μ1 => if w32 a1 = w32 (-1) then (some (.inr (some (zJ (μ1 51 4))), μ1)) else (if w32 a1 < 0 then (J_Ledger_order_42 μ1) else (if w32 a1 < w32 (μ1 51 3) then (zRd μ1 96 6 a1 (fun x3 => some (.inr (some (zJ (w32 x3))), μ1))) else (J_Ledger_order_42 μ1))))) zX0
set_option maxRecDepth 100000 in
theorem w_Ledger_order (a1 : Int) (μ : ZMem) : AW cf_Ledger_order S_Ledger.length S_Ledger S_Ledger 0 [(0, zR (some 0)), (1, zI a1)] [] μ 0 0 (F_Ledger_order a1 μ) := by
  unfold F_Ledger_order
  refine AW.aload_n (i := 0) (a := 0) (by decide +kernel) rfl (?_ : AW _ _ _ _ 1 _ _ _ _ _ _)
  refine AW.getR (idx := 48) (ci := 8) (k := 6) (r := 0) (by decide +kernel) rfl rfl rfl (?_ : AW _ _ _ _ 4 _ _ _ _ _ _)
  refine AW.aload_n (i := 0) (a := 0) (by decide +kernel) rfl (?_ : AW _ _ _ _ 5 _ _ _ _ _ _)
  refine AW.getR (idx := 38) (ci := 8) (k := 4) (r := 0) (by decide +kernel) rfl rfl rfl (?_ : AW _ _ _ _ 8 _ _ _ _ _ _)
  refine AW.getR (idx := 152) (ci := 5) (k := 0) (r := 13) (by decide +kernel) rfl rfl rfl (?_ : AW _ _ _ _ 11 _ _ _ _ _ _)
  refine AW.callVm (g := cf_Orders_search) (Sg := S_Orders) (pl := [51, 52, 53, 54, 55, 56, 57, 58, 59, 60, 61, 62, 63, 64, 65, 66, 67, 68, 69, 70, 71, 72, 73, 74, 75, 76, 77, 78, 79, 80, 81, 82, 83, 84, 85, 86, 87, 88, 89, 90, 91, 92, 93, 94, 95, 96, 14, 15, 16, 17, 18, 19]) (av := [zR (some 46)]) (b0 := 0) (ci := 3) (idx := 207) (n := 1) (st := []) (by decide +kernel) (fun l hl r hr => c_Orders_search l hl  _ r hr) sb_55 rfl cal_Orders_search rfl (zw4 zm_X8_207 zi_yX3_search zs_yX3_search zn_X3) rfl rfl ⟨by decide, by decide, by decide, by decide⟩ (Nat.le_of_ble_eq_true rfl) (Or.inl rfl) (fun v μ1 => AW.rV (?_ : AW _ _ _ _ 14 _ _ _ _ _ _) v)
  refine AW.iload_n (i := 1) (a := a1) (by decide +kernel) rfl (?_ : AW _ _ _ _ 15 _ _ _ _ _ _)
  refine AW.iconst (n := -1) (by decide +kernel) (?_ : AW _ _ _ _ 16 _ _ _ _ _ _)
  refine AW.icmp_ne (off := 11) (tgt := 27) (by decide +kernel) (by decide) (fun _ => ?_) (fun _ => ?_)
  · refine AW.aload_n (i := 0) (a := 0) (by decide +kernel) rfl (?_ : AW _ _ _ _ 20 _ _ _ _ _ _)
    refine AW.getR (idx := 48) (ci := 8) (k := 6) (r := 0) (by decide +kernel) rfl rfl rfl (?_ : AW _ _ _ _ 23 _ _ _ _ _ _)
    refine AW.getJ (idx := 210) (ci := 3) (k := 4) (r := 51) (by decide +kernel) rfl rfl rfl (?_ : AW _ _ _ _ 26 _ _ _ _ _ _)
    exact AW.retl (by decide +kernel) rfl (by decide) (by decide)
  · refine AW.iload_n (i := 1) (a := a1) (by decide +kernel) rfl (?_ : AW _ _ _ _ 28 _ _ _ _ _ _)
    refine AW.if_lt (off := 14) (tgt := 42) (by decide +kernel) (by decide) (fun _ => ?_) (fun _ => ?_)
    · refine AW.sub (L' := []) [] rfl ?_
      exact j_Ledger_order_42 μ1
    · refine AW.iload_n (i := 1) (a := a1) (by decide +kernel) rfl (?_ : AW _ _ _ _ 32 _ _ _ _ _ _)
      refine AW.aload_n (i := 0) (a := 0) (by decide +kernel) rfl (?_ : AW _ _ _ _ 33 _ _ _ _ _ _)
      refine AW.getR (idx := 48) (ci := 8) (k := 6) (r := 0) (by decide +kernel) rfl rfl rfl (?_ : AW _ _ _ _ 36 _ _ _ _ _ _)
      refine AW.getI (idx := 213) (ci := 3) (k := 3) (r := 51) (by decide +kernel) rfl rfl rfl (?_ : AW _ _ _ _ 39 _ _ _ _ _ _)
      refine AW.icmp_lt (off := 9) (tgt := 48) (by decide +kernel) (by decide) (fun _ => ?_) (fun _ => ?_)
      · refine AW.aload_n (i := 0) (a := 0) (by decide +kernel) rfl (?_ : AW _ _ _ _ 49 _ _ _ _ _ _)
        refine AW.getR (idx := 48) (ci := 8) (k := 6) (r := 0) (by decide +kernel) rfl rfl rfl (?_ : AW _ _ _ _ 52 _ _ _ _ _ _)
        refine AW.getR (idx := 216) (ci := 3) (k := 2) (r := 51) (by decide +kernel) rfl rfl rfl (?_ : AW _ _ _ _ 55 _ _ _ _ _ _)
        refine AW.iload_n (i := 1) (a := a1) (by decide +kernel) rfl (?_ : AW _ _ _ _ 56 _ _ _ _ _ _)
        refine AW.iald (r := 96) (by decide +kernel) rfl (fun x3 => (?_ : AW _ _ _ _ 57 _ _ _ _ _ _))
        refine AW.i2l (by decide +kernel) (?_ : AW _ _ _ _ 58 _ _ _ _ _ _)
        exact AW.retl (by decide +kernel) rfl (by decide) (by decide)
      · refine AW.sub (L' := []) [] rfl ?_
        exact j_Ledger_order_42 μ1
theorem c_Ledger_order (l : Launch) (hl : l.stackTraces = false) (a1 : Int) (μ : ZMem) (r : ZRes) (h : F_Ledger_order a1 μ = some r) : ZC l cf_Ledger_order S_Ledger S_Ledger [zR (some 0), zI a1] μ r := ZC.of hl (by decide +kernel) rfl rfl zft_X8_ok (Nat.le_of_ble_eq_true rfl) h (w_Ledger_order a1 μ)
theorem sb_56 : zSub S_Ledger [33, 34, 35, 36, 37, 38, 3, 4, 5, 6] S_Books := ⟨rfl, by decide +kernel, by decide +kernel, rfl⟩
def S_Books4 : List ZSh := [.inl (0, [(2, some 1), (2, some 2), (2, some 3), (2, some 4), (2, some 5), (0, none), (0, none), (3, none)]), .inr (0, 7, []), .inr (1, 32, []), .inr (0, 24, []), .inr (1, 4, []), .inr (1, 6, []), .inl (2, [(2, some 7), (0, none)]), .inr (0, 420, []), .inr (1, 201, [])]
theorem S_Books4_wf : zWfS S_Books4.length S_Books4 = true ∧ Nat.ble S_Books4.length 1000 = true := ⟨by decide +kernel, rfl⟩
theorem sb_57 : zSub S_Books4 [0, 1, 2, 3, 4, 5] S_Books3 := ⟨rfl, by decide +kernel, by decide +kernel, rfl⟩
/-! WeirLedger$Books.retrace(LWeirLedger$Journal;I[J)V -/
def cf_Books_retrace : ZCf := (yX0_retrace, cX0_retrace, 8, none, [], 5, 0, 0, zft_X0, none)
theorem cal_Books_retrace : zCallee cf_Books_retrace 3 := ⟨rfl, zc_yX0_retrace, by decide, by decide, by decide +kernel⟩
def J_Books_retrace_111 (y0 : Int) (y1 : Int) (y2 : Int) (μ : ZMem) : Option ZRes := zCm [0, 1, 2, 3, 4, 5] μ (F_Books_sellDeal y2 y1 y0 (zVw [0, 1, 2, 3, 4, 5] μ)) (zkV (fun μ8 => some (.inr none, μ8))) zX0
set_option maxRecDepth 100000 in
theorem j_Books_retrace_111 (y0 : Int) (y1 : Int) (y2 : Int) (μ : ZMem) : AW cf_Books_retrace S_Books4.length S_Books4 S_Books4 111 [] [zI y0, zI y1, zI y2, zR (some 0)] μ 0 0 (J_Books_retrace_111 y0 y1 y2 μ) := by
  unfold J_Books_retrace_111
  refine AW.callVm (g := cf_Books_sellDeal) (Sg := S_Books3) (pl := [0, 1, 2, 3, 4, 5]) (av := [zI y2, zI y1, zI y0]) (b0 := 0) (ci := 0) (idx := 94) (n := 3) (st := []) (by decide +kernel) (fun l hl r hr => c_Books_sellDeal l hl y2 y1 y0 _ r hr) sb_57 rfl cal_Books_sellDeal rfl (zw4 zm_X0_94 zi_yX0_sellDeal zs_yX0_sellDeal zn_X0) rfl rfl ⟨by decide, by decide, by decide, by decide⟩ (Nat.le_of_ble_eq_true rfl) (Or.inl rfl) (fun v μ8 => AW.rV (?_ : AW _ _ _ _ 114 _ _ _ _ _ _) v)
  refine AW.goto (off := 50) (tgt := 164) (by decide +kernel) (by decide) ?_
  exact AW.retv (by decide +kernel) rfl (by decide) (by decide)
def L_Books_retrace_120 (c5 : Int) (K : ZMem → Option ZRes) : Nat → Int → ZMem → Option ZRes
  | 0, _, _ => none
  | n + 1, v7, μ => if w32 c5 ≤ w32 v7 then (K  μ) else (if w32 200 ≤ w32 (μ 0 6) then (K  μ) else (zRd μ 8 201 (μ 0 6) (fun x13 => zCm [0, 1, 2, 3, 4, 5] μ (F_Books_pass x13 (zVw [0, 1, 2, 3, 4, 5] μ)) (zkV (fun μ14 => zLet (v7 + 1) (fun x16 => L_Books_retrace_120 c5 K n x16 μ14))) zX0)))
set_option maxRecDepth 100000 in
theorem l_Books_retrace_120 {c5 : Int} {K : ZMem → Option ZRes} (hK : ∀ (μ : ZMem), AW cf_Books_retrace S_Books4.length S_Books4 S_Books4 153 [] [] μ 0 0 (K μ)) : ∀ (n : Nat) (v7 : Int) (μ : ZMem), AW cf_Books_retrace S_Books4.length S_Books4 S_Books4 120 [(0, zR (some 0)), (3, zR (some 8)), (5, zI c5), (7, zI v7)] [] μ 0 0 (L_Books_retrace_120 c5 K n v7 μ) := by
  intro n
  induction n with
  | zero => intro v7 μ; exact AW.noth
  | succ n ih =>
    intro v7 μ
    rw [L_Books_retrace_120]
    refine AW.iload (i := 7) (a := v7) (by decide +kernel) rfl (?_ : AW _ _ _ _ 122 _ _ _ _ _ _)
    refine AW.iload (i := 5) (a := c5) (by decide +kernel) rfl (?_ : AW _ _ _ _ 124 _ _ _ _ _ _)
    refine AW.icmp_ge (off := 29) (tgt := 153) (by decide +kernel) (by decide) (fun _ => ?_) (fun _ => ?_)
    · refine AW.sub (L' := []) [] rfl ?_
      exact hK  μ
    · refine AW.aload_n (i := 0) (a := 0) (by decide +kernel) rfl (?_ : AW _ _ _ _ 128 _ _ _ _ _ _)
      refine AW.getI (idx := 51) (ci := 0) (k := 6) (r := 0) (by decide +kernel) rfl rfl rfl (?_ : AW _ _ _ _ 131 _ _ _ _ _ _)
      refine AW.sipush (n := 200) (by decide +kernel) (by decide +kernel) (?_ : AW _ _ _ _ 134 _ _ _ _ _ _)
      refine AW.icmp_ge (off := 19) (tgt := 153) (by decide +kernel) (by decide) (fun _ => ?_) (fun _ => ?_)
      · refine AW.sub (L' := []) [] rfl ?_
        exact hK  μ
      · refine AW.aload_n (i := 0) (a := 0) (by decide +kernel) rfl (?_ : AW _ _ _ _ 138 _ _ _ _ _ _)
        refine AW.aload_n (i := 3) (a := 8) (by decide +kernel) rfl (?_ : AW _ _ _ _ 139 _ _ _ _ _ _)
        refine AW.aload_n (i := 0) (a := 0) (by decide +kernel) rfl (?_ : AW _ _ _ _ 140 _ _ _ _ _ _)
        refine AW.getI (idx := 51) (ci := 0) (k := 6) (r := 0) (by decide +kernel) rfl rfl rfl (?_ : AW _ _ _ _ 143 _ _ _ _ _ _)
        refine AW.lald (r := 8) (by decide +kernel) rfl (fun x13 => (?_ : AW _ _ _ _ 144 _ _ _ _ _ _))
        refine AW.callVm (g := cf_Books_pass) (Sg := S_Books3) (pl := [0, 1, 2, 3, 4, 5]) (av := [zJ x13]) (b0 := 0) (ci := 0) (idx := 117) (n := 1) (st := []) (by decide +kernel) (fun l hl r hr => c_Books_pass l hl x13 _ r hr) sb_57 rfl cal_Books_pass rfl (zw4 zm_X0_117 zi_yX0_pass zs_yX0_pass zn_X0) rfl rfl ⟨by decide, by decide, by decide, by decide⟩ (Nat.le_of_ble_eq_true rfl) (Or.inl rfl) (fun v μ14 => AW.rV (?_ : AW _ _ _ _ 147 _ _ _ _ _ _) v)
        refine AW.iincL (i := 7) (n := 1) (a := v7) (L' := fun x16 => [(7, zI x16), (0, zR (some 0)), (3, zR (some 8)), (5, zI c5)]) (by decide +kernel) rfl (by decide) (fun _ => rfl) (fun x16 => (?_ : AW _ _ _ _ 150 _ _ _ _ _ _))
        refine AW.goto (off := -30) (tgt := 120) (by decide +kernel) (by decide) ?_
        refine AW.sub (L' := [(0, zR (some 0)), (3, zR (some 8)), (5, zI c5), (7, zI x16)]) [1, 2, 3, 0] rfl ?_
        exact ih x16 μ14
def F_Books_retrace (a2 : Int) (μ : ZMem) : Option ZRes := zRd μ 7 420 ((a2 * 7) + 1) (fun x1 => zRd μ 7 420 ((a2 * 7) + 2) (fun x2 => zRd μ 7 420 ((a2 * 7) + 0) (fun x3 => if w32 x3 = 0 then (zCm [0, 1, 2, 3, 4, 5] μ (F_Books_raise x1 x2 (zVw [0, 1, 2, 3, 4, 5] μ)) (zkV (fun μ5 => some (.inr none, μ5))) zX0) else (if w32 x3 = 1 then (if w32 x3 = w32 2 then (J_Books_retrace_111 1 x2 x1 μ) else (J_Books_retrace_111 0 x2 x1 μ)) else (if w32 x3 = 2 then (if w32 x3 = w32 2 then (J_Books_retrace_111 1 x2 x1 μ) else (J_Books_retrace_111 0 x2 x1 μ)) else (if w32 x3 = 3 then (some (.inr none, μ)) else (if w32 x3 = 4 then (L_Books_retrace_120 x2 (fun μ17 => some (.inr none, μ17)) zN 0 μ) else (if w32 x3 = 5 then (some (.inr none, μ)) else (if w32 x3 = 6 then (zCm [0, 1, 2, 3, 4, 5] μ (F_Books_settle  (zVw [0, 1, 2, 3, 4, 5] μ)) (zkJ (fun x21 μ20 => some (.inr none, μ20))) zX0) else (some (.inr none, μ)))))))))))
set_option maxRecDepth 100000 in
theorem w_Books_retrace (a2 : Int) (μ : ZMem) : AW cf_Books_retrace S_Books4.length S_Books4 S_Books4 0 [(0, zR (some 0)), (1, zR (some 6)), (2, zI a2), (3, zR (some 8))] [] μ 0 0 (F_Books_retrace a2 μ) := by
  unfold F_Books_retrace
  refine AW.aload_n (i := 1) (a := 6) (by decide +kernel) rfl (?_ : AW _ _ _ _ 1 _ _ _ _ _ _)
  refine AW.getR (idx := 109) (ci := 2) (k := 0) (r := 6) (by decide +kernel) rfl rfl rfl (?_ : AW _ _ _ _ 4 _ _ _ _ _ _)
  refine AW.iload_n (i := 2) (a := a2) (by decide +kernel) rfl (?_ : AW _ _ _ _ 5 _ _ _ _ _ _)
  refine AW.bipush (n := 7) (by decide +kernel) (by decide +kernel) (?_ : AW _ _ _ _ 7 _ _ _ _ _ _)
  refine AW.imul (by decide +kernel) (?_ : AW _ _ _ _ 8 _ _ _ _ _ _)
  refine AW.iconst (n := 1) (by decide +kernel) (?_ : AW _ _ _ _ 9 _ _ _ _ _ _)
  refine AW.iadd (by decide +kernel) (?_ : AW _ _ _ _ 10 _ _ _ _ _ _)
  refine AW.iald (r := 7) (by decide +kernel) rfl (fun x1 => (?_ : AW _ _ _ _ 11 _ _ _ _ _ _))
  refine AW.istore' (i := 4) (L' := [(4, zI x1), (0, zR (some 0)), (1, zR (some 6)), (2, zI a2), (3, zR (some 8))]) (by decide +kernel) (by decide) rfl (?_ : AW _ _ _ _ 13 _ _ _ _ _ _)
  refine AW.aload_n (i := 1) (a := 6) (by decide +kernel) rfl (?_ : AW _ _ _ _ 14 _ _ _ _ _ _)
  refine AW.getR (idx := 109) (ci := 2) (k := 0) (r := 6) (by decide +kernel) rfl rfl rfl (?_ : AW _ _ _ _ 17 _ _ _ _ _ _)
  refine AW.iload_n (i := 2) (a := a2) (by decide +kernel) rfl (?_ : AW _ _ _ _ 18 _ _ _ _ _ _)
  refine AW.bipush (n := 7) (by decide +kernel) (by decide +kernel) (?_ : AW _ _ _ _ 20 _ _ _ _ _ _)
  refine AW.imul (by decide +kernel) (?_ : AW _ _ _ _ 21 _ _ _ _ _ _)
  refine AW.iconst (n := 2) (by decide +kernel) (?_ : AW _ _ _ _ 22 _ _ _ _ _ _)
  refine AW.iadd (by decide +kernel) (?_ : AW _ _ _ _ 23 _ _ _ _ _ _)
  refine AW.iald (r := 7) (by decide +kernel) rfl (fun x2 => (?_ : AW _ _ _ _ 24 _ _ _ _ _ _))
  refine AW.istore' (i := 5) (L' := [(5, zI x2), (4, zI x1), (0, zR (some 0)), (1, zR (some 6)), (2, zI a2), (3, zR (some 8))]) (by decide +kernel) (by decide) rfl (?_ : AW _ _ _ _ 26 _ _ _ _ _ _)
  refine AW.aload_n (i := 1) (a := 6) (by decide +kernel) rfl (?_ : AW _ _ _ _ 27 _ _ _ _ _ _)
  refine AW.getR (idx := 109) (ci := 2) (k := 0) (r := 6) (by decide +kernel) rfl rfl rfl (?_ : AW _ _ _ _ 30 _ _ _ _ _ _)
  refine AW.iload_n (i := 2) (a := a2) (by decide +kernel) rfl (?_ : AW _ _ _ _ 31 _ _ _ _ _ _)
  refine AW.bipush (n := 7) (by decide +kernel) (by decide +kernel) (?_ : AW _ _ _ _ 33 _ _ _ _ _ _)
  refine AW.imul (by decide +kernel) (?_ : AW _ _ _ _ 34 _ _ _ _ _ _)
  refine AW.iconst (n := 0) (by decide +kernel) (?_ : AW _ _ _ _ 35 _ _ _ _ _ _)
  refine AW.iadd (by decide +kernel) (?_ : AW _ _ _ _ 36 _ _ _ _ _ _)
  refine AW.iald (r := 7) (by decide +kernel) rfl (fun x3 => (?_ : AW _ _ _ _ 37 _ _ _ _ _ _))
  refine AW.istore' (i := 6) (L' := [(6, zI x3), (5, zI x2), (4, zI x1), (0, zR (some 0)), (1, zR (some 6)), (2, zI a2), (3, zR (some 8))]) (by decide +kernel) (by decide) rfl (?_ : AW _ _ _ _ 39 _ _ _ _ _ _)
  refine AW.iload (i := 6) (a := x3) (by decide +kernel) rfl (?_ : AW _ _ _ _ 41 _ _ _ _ _ _)
  refine AW.tswC (dflt := 123) (lo := 0) (hi := 6) (offs := #[43, 54, 54, 123, 76, 123, 115]) (len := 43) (k := 0) (off := 43) (tgt := 84) (by decide +kernel) (by decide) (by decide) rfl (by decide) (fun _ => ?_) (fun h4 => ?_)
  · refine AW.aload_n (i := 0) (a := 0) (by decide +kernel) rfl (?_ : AW _ _ _ _ 85 _ _ _ _ _ _)
    refine AW.iload (i := 4) (a := x1) (by decide +kernel) rfl (?_ : AW _ _ _ _ 87 _ _ _ _ _ _)
    refine AW.iload (i := 5) (a := x2) (by decide +kernel) rfl (?_ : AW _ _ _ _ 89 _ _ _ _ _ _)
    refine AW.callVm (g := cf_Books_raise) (Sg := S_Books3) (pl := [0, 1, 2, 3, 4, 5]) (av := [zI x1, zI x2]) (b0 := 0) (ci := 0) (idx := 114) (n := 2) (st := []) (by decide +kernel) (fun l hl r hr => c_Books_raise l hl x1 x2 _ r hr) sb_57 rfl cal_Books_raise rfl (zw4 zm_X0_114 zi_yX0_raise zs_yX0_raise zn_X0) rfl rfl ⟨by decide, by decide, by decide, by decide⟩ (Nat.le_of_ble_eq_true rfl) (Or.inl rfl) (fun v μ5 => AW.rV (?_ : AW _ _ _ _ 92 _ _ _ _ _ _) v)
    refine AW.goto (off := 72) (tgt := 164) (by decide +kernel) (by decide) ?_
    exact AW.retv (by decide +kernel) rfl (by decide) (by decide)
  refine AW.tswC (dflt := 123) (lo := 0) (hi := 6) (offs := #[43, 54, 54, 123, 76, 123, 115]) (len := 43) (k := 1) (off := 54) (tgt := 95) (by decide +kernel) (by decide) (by decide) rfl (by decide) (fun _ => ?_) (fun h7 => ?_)
  · refine AW.aload_n (i := 0) (a := 0) (by decide +kernel) rfl (?_ : AW _ _ _ _ 96 _ _ _ _ _ _)
    refine AW.iload (i := 4) (a := x1) (by decide +kernel) rfl (?_ : AW _ _ _ _ 98 _ _ _ _ _ _)
    refine AW.iload (i := 5) (a := x2) (by decide +kernel) rfl (?_ : AW _ _ _ _ 100 _ _ _ _ _ _)
    refine AW.iload (i := 6) (a := x3) (by decide +kernel) rfl (?_ : AW _ _ _ _ 102 _ _ _ _ _ _)
    refine AW.iconst (n := 2) (by decide +kernel) (?_ : AW _ _ _ _ 103 _ _ _ _ _ _)
    refine AW.icmp_ne (off := 7) (tgt := 110) (by decide +kernel) (by decide) (fun _ => ?_) (fun _ => ?_)
    · refine AW.iconst (n := 1) (by decide +kernel) (?_ : AW _ _ _ _ 107 _ _ _ _ _ _)
      refine AW.goto (off := 4) (tgt := 111) (by decide +kernel) (by decide) ?_
      refine AW.sub (L' := []) [] rfl ?_
      exact j_Books_retrace_111 1 x2 x1 μ
    · refine AW.iconst (n := 0) (by decide +kernel) (?_ : AW _ _ _ _ 111 _ _ _ _ _ _)
      refine AW.sub (L' := []) [] rfl ?_
      exact j_Books_retrace_111 0 x2 x1 μ
  refine AW.tswC (dflt := 123) (lo := 0) (hi := 6) (offs := #[43, 54, 54, 123, 76, 123, 115]) (len := 43) (k := 2) (off := 54) (tgt := 95) (by decide +kernel) (by decide) (by decide) rfl (by decide) (fun _ => ?_) (fun h10 => ?_)
  · refine AW.aload_n (i := 0) (a := 0) (by decide +kernel) rfl (?_ : AW _ _ _ _ 96 _ _ _ _ _ _)
    refine AW.iload (i := 4) (a := x1) (by decide +kernel) rfl (?_ : AW _ _ _ _ 98 _ _ _ _ _ _)
    refine AW.iload (i := 5) (a := x2) (by decide +kernel) rfl (?_ : AW _ _ _ _ 100 _ _ _ _ _ _)
    refine AW.iload (i := 6) (a := x3) (by decide +kernel) rfl (?_ : AW _ _ _ _ 102 _ _ _ _ _ _)
    refine AW.iconst (n := 2) (by decide +kernel) (?_ : AW _ _ _ _ 103 _ _ _ _ _ _)
    refine AW.icmp_ne (off := 7) (tgt := 110) (by decide +kernel) (by decide) (fun _ => ?_) (fun _ => ?_)
    · refine AW.iconst (n := 1) (by decide +kernel) (?_ : AW _ _ _ _ 107 _ _ _ _ _ _)
      refine AW.goto (off := 4) (tgt := 111) (by decide +kernel) (by decide) ?_
      refine AW.sub (L' := []) [] rfl ?_
      exact j_Books_retrace_111 1 x2 x1 μ
    · refine AW.iconst (n := 0) (by decide +kernel) (?_ : AW _ _ _ _ 111 _ _ _ _ _ _)
      refine AW.sub (L' := []) [] rfl ?_
      exact j_Books_retrace_111 0 x2 x1 μ
  refine AW.tswC (dflt := 123) (lo := 0) (hi := 6) (offs := #[43, 54, 54, 123, 76, 123, 115]) (len := 43) (k := 3) (off := 123) (tgt := 164) (by decide +kernel) (by decide) (by decide) rfl (by decide) (fun _ => ?_) (fun h11 => ?_)
  · exact AW.retv (by decide +kernel) rfl (by decide) (by decide)
  refine AW.tswC (dflt := 123) (lo := 0) (hi := 6) (offs := #[43, 54, 54, 123, 76, 123, 115]) (len := 43) (k := 4) (off := 76) (tgt := 117) (by decide +kernel) (by decide) (by decide) rfl (by decide) (fun _ => ?_) (fun h12 => ?_)
  · refine AW.iconst (n := 0) (by decide +kernel) (?_ : AW _ _ _ _ 118 _ _ _ _ _ _)
    refine AW.istore' (i := 7) (L' := [(7, zI 0), (6, zI x3), (5, zI x2), (4, zI x1), (0, zR (some 0)), (1, zR (some 6)), (2, zI a2), (3, zR (some 8))]) (by decide +kernel) (by decide) rfl (?_ : AW _ _ _ _ 120 _ _ _ _ _ _)
    refine AW.sub (L' := [(0, zR (some 0)), (3, zR (some 8)), (5, zI x2), (7, zI 0)]) [4, 7, 2, 0] rfl ?_
    refine l_Books_retrace_120 (fun μ17 => ?_) zN _ _
    refine AW.goto (off := 11) (tgt := 164) (by decide +kernel) (by decide) ?_
    exact AW.retv (by decide +kernel) rfl (by decide) (by decide)
  refine AW.tswC (dflt := 123) (lo := 0) (hi := 6) (offs := #[43, 54, 54, 123, 76, 123, 115]) (len := 43) (k := 5) (off := 123) (tgt := 164) (by decide +kernel) (by decide) (by decide) rfl (by decide) (fun _ => ?_) (fun h18 => ?_)
  · exact AW.retv (by decide +kernel) rfl (by decide) (by decide)
  refine AW.tswC (dflt := 123) (lo := 0) (hi := 6) (offs := #[43, 54, 54, 123, 76, 123, 115]) (len := 43) (k := 6) (off := 115) (tgt := 156) (by decide +kernel) (by decide) (by decide) rfl (by decide) (fun _ => ?_) (fun h19 => ?_)
  · refine AW.aload_n (i := 0) (a := 0) (by decide +kernel) rfl (?_ : AW _ _ _ _ 157 _ _ _ _ _ _)
    refine AW.callVm (g := cf_Books_settle) (Sg := S_Books3) (pl := [0, 1, 2, 3, 4, 5]) (av := []) (b0 := 0) (ci := 0) (idx := 121) (n := 0) (st := []) (by decide +kernel) (fun l hl r hr => c_Books_settle l hl  _ r hr) sb_57 rfl cal_Books_settle rfl (zw4 zm_X0_121 zi_yX0_settle zs_yX0_settle zn_X0) rfl rfl ⟨by decide, by decide, by decide, by decide⟩ (Nat.le_of_ble_eq_true rfl) (Or.inl rfl) (fun v μ20 => AW.rJ (fun x21 => (?_ : AW _ _ _ _ 160 _ _ _ _ _ _)) v)
    refine AW.pop2 (by decide +kernel) rfl (?_ : AW _ _ _ _ 161 _ _ _ _ _ _)
    refine AW.goto (off := 3) (tgt := 164) (by decide +kernel) (by decide) ?_
    exact AW.retv (by decide +kernel) rfl (by decide) (by decide)
  refine AW.tswD (dflt := 123) (lo := 0) (hi := 6) (offs := #[43, 54, 54, 123, 76, 123, 115]) (len := 43) (tgt := 164) (by decide +kernel) (by omega) (by decide) ?_
  exact AW.retv (by decide +kernel) rfl (by decide) (by decide)
theorem c_Books_retrace (l : Launch) (hl : l.stackTraces = false) (a2 : Int) (μ : ZMem) (r : ZRes) (h : F_Books_retrace a2 μ = some r) : ZC l cf_Books_retrace S_Books4 S_Books4 [zR (some 0), zR (some 6), zI a2, zR (some 8)] μ r := ZC.of hl (by decide +kernel) rfl rfl zft_X0_ok (Nat.le_of_ble_eq_true rfl) h (w_Books_retrace a2 μ)
theorem sb_58 : zSub S_Ledger [33, 34, 35, 36, 37, 38, 11, 12, 31] S_Books4 := ⟨rfl, by decide +kernel, by decide +kernel, rfl⟩
/-! WeirLedger.booksUnder(II)LWeirLedger$Books; -/
def cf_Ledger_booksUnder : ZCf := (yX8_booksUnder, cX8_booksUnder, 5, some (.object "WeirLedger$Books"), [], 6, 0, 0, zft_X8, none)
theorem cal_Ledger_booksUnder : zCallee cf_Ledger_booksUnder 2 := ⟨rfl, zc_yX8_booksUnder, by decide, by decide, by decide +kernel⟩
def L_Ledger_booksUnder_26 (K : ZMem → Option ZRes) : Nat → Int → ZMem → Option ZRes
  | 0, _, _ => none
  | n + 1, v4, μ => if w32 (μ 11 1) ≤ w32 v4 then (K  μ) else (zCm [33, 34, 35, 36, 37, 38, 11, 12, 31] μ (F_Books_retrace v4 (zVw [33, 34, 35, 36, 37, 38, 11, 12, 31] μ)) (zkV (fun μ4 => zLet (v4 + 1) (fun x6 => L_Ledger_booksUnder_26 K n x6 μ4))) zX0)
set_option maxRecDepth 100000 in
theorem l_Ledger_booksUnder_26 {K : ZMem → Option ZRes} (hK : ∀ (μ : ZMem), AW cf_Ledger_booksUnder S_Ledger.length S_Ledger S_Ledger 64 [(3, zR (some 33))] [] μ 0 0 (K μ)) : ∀ (n : Nat) (v4 : Int) (μ : ZMem), AW cf_Ledger_booksUnder S_Ledger.length S_Ledger S_Ledger 26 [(0, zR (some 0)), (3, zR (some 33)), (4, zI v4)] [] μ 0 0 (L_Ledger_booksUnder_26 K n v4 μ) := by
  intro n
  induction n with
  | zero => intro v4 μ; exact AW.noth
  | succ n ih =>
    intro v4 μ
    rw [L_Ledger_booksUnder_26]
    refine AW.iload (i := 4) (a := v4) (by decide +kernel) rfl (?_ : AW _ _ _ _ 28 _ _ _ _ _ _)
    refine AW.aload_n (i := 0) (a := 0) (by decide +kernel) rfl (?_ : AW _ _ _ _ 29 _ _ _ _ _ _)
    refine AW.getR (idx := 29) (ci := 8) (k := 3) (r := 0) (by decide +kernel) rfl rfl rfl (?_ : AW _ _ _ _ 32 _ _ _ _ _ _)
    refine AW.getI (idx := 90) (ci := 2) (k := 1) (r := 11) (by decide +kernel) rfl rfl rfl (?_ : AW _ _ _ _ 35 _ _ _ _ _ _)
    refine AW.icmp_ge (off := 29) (tgt := 64) (by decide +kernel) (by decide) (fun _ => ?_) (fun _ => ?_)
    · refine AW.sub (L' := [(3, zR (some 33))]) [1] rfl ?_
      exact hK  μ
    · refine AW.aload_n (i := 3) (a := 33) (by decide +kernel) rfl (?_ : AW _ _ _ _ 39 _ _ _ _ _ _)
      refine AW.aload_n (i := 0) (a := 0) (by decide +kernel) rfl (?_ : AW _ _ _ _ 40 _ _ _ _ _ _)
      refine AW.getR (idx := 29) (ci := 8) (k := 3) (r := 0) (by decide +kernel) rfl rfl rfl (?_ : AW _ _ _ _ 43 _ _ _ _ _ _)
      refine AW.iload (i := 4) (a := v4) (by decide +kernel) rfl (?_ : AW _ _ _ _ 45 _ _ _ _ _ _)
      refine AW.aload_n (i := 0) (a := 0) (by decide +kernel) rfl (?_ : AW _ _ _ _ 46 _ _ _ _ _ _)
      refine AW.getR (idx := 38) (ci := 8) (k := 4) (r := 0) (by decide +kernel) rfl rfl rfl (?_ : AW _ _ _ _ 49 _ _ _ _ _ _)
      refine AW.getR (idx := 282) (ci := 5) (k := 3) (r := 13) (by decide +kernel) rfl rfl rfl (?_ : AW _ _ _ _ 52 _ _ _ _ _ _)
      refine AW.getR (idx := 341) (ci := 7) (k := 1) (r := 29) (by decide +kernel) rfl rfl rfl (?_ : AW _ _ _ _ 55 _ _ _ _ _ _)
      refine AW.callVm (g := cf_Books_retrace) (Sg := S_Books4) (pl := [33, 34, 35, 36, 37, 38, 11, 12, 31]) (av := [zR (some 6), zI v4, zR (some 8)]) (b0 := 0) (ci := 0) (idx := 344) (n := 3) (st := []) (by decide +kernel) (fun l hl r hr => c_Books_retrace l hl v4 _ r hr) sb_58 rfl cal_Books_retrace rfl (zw4 zm_X8_344 zi_yX0_retrace zs_yX0_retrace zn_X0) rfl rfl ⟨by decide, by decide, by decide, by decide⟩ (Nat.le_of_ble_eq_true rfl) (Or.inl rfl) (fun v μ4 => AW.rV (?_ : AW _ _ _ _ 58 _ _ _ _ _ _) v)
      refine AW.iincL (i := 4) (n := 1) (a := v4) (L' := fun x6 => [(4, zI x6), (0, zR (some 0)), (3, zR (some 33))]) (by decide +kernel) rfl (by decide) (fun _ => rfl) (fun x6 => (?_ : AW _ _ _ _ 61 _ _ _ _ _ _))
      refine AW.goto (off := -35) (tgt := 26) (by decide +kernel) (by decide) ?_
      refine AW.sub (L' := [(0, zR (some 0)), (3, zR (some 33)), (4, zI x6)]) [1, 2, 0] rfl ?_
      exact ih x6 μ4
def F_Ledger_booksUnder (a1 : Int) (a2 : Int) (μ : ZMem) : Option ZRes := zCm [33, 34, 35, 36, 37, 38, 3, 4, 5, 6] μ (F_Books_open  (zVw [33, 34, 35, 36, 37, 38, 3, 4, 5, 6] μ)) (zkV (fun μ1 => zWr μ1 34 7 a1 a2 (fun μ3 => L_Ledger_booksUnder_26 (fun μ7 => some (.inr (some (zR (some 33))), μ7)) zN 0 μ3))) zX0
set_option maxRecDepth 100000 in
theorem w_Ledger_booksUnder (a1 : Int) (a2 : Int) (μ : ZMem) : AW cf_Ledger_booksUnder S_Ledger.length S_Ledger S_Ledger 0 [(0, zR (some 0)), (1, zI a1), (2, zI a2)] [] μ 0 0 (F_Ledger_booksUnder a1 a2 μ) := by
  unfold F_Ledger_booksUnder
  refine AW.aload_n (i := 0) (a := 0) (by decide +kernel) rfl (?_ : AW _ _ _ _ 1 _ _ _ _ _ _)
  refine AW.getR (idx := 42) (ci := 8) (k := 5) (r := 0) (by decide +kernel) rfl rfl rfl (?_ : AW _ _ _ _ 4 _ _ _ _ _ _)
  refine AW.getR (idx := 152) (ci := 5) (k := 0) (r := 32) (by decide +kernel) rfl rfl rfl (?_ : AW _ _ _ _ 7 _ _ _ _ _ _)
  refine AW.astore_n' (i := 3) (L' := [(3, zR (some 33)), (0, zR (some 0)), (1, zI a1), (2, zI a2)]) (by decide +kernel) (by decide) rfl (?_ : AW _ _ _ _ 8 _ _ _ _ _ _)
  refine AW.aload_n (i := 3) (a := 33) (by decide +kernel) rfl (?_ : AW _ _ _ _ 9 _ _ _ _ _ _)
  refine AW.aload_n (i := 0) (a := 0) (by decide +kernel) rfl (?_ : AW _ _ _ _ 10 _ _ _ _ _ _)
  refine AW.getR (idx := 19) (ci := 8) (k := 1) (r := 0) (by decide +kernel) rfl rfl rfl (?_ : AW _ _ _ _ 13 _ _ _ _ _ _)
  refine AW.callVm (g := cf_Books_open) (Sg := S_Books) (pl := [33, 34, 35, 36, 37, 38, 3, 4, 5, 6]) (av := [zR (some 6)]) (b0 := 0) (ci := 0) (idx := 339) (n := 1) (st := []) (by decide +kernel) (fun l hl r hr => c_Books_open l hl  _ r hr) sb_56 rfl cal_Books_open rfl (zw4 zm_X8_339 zi_yX0_open zs_yX0_open zn_X0) rfl rfl ⟨by decide, by decide, by decide, by decide⟩ (Nat.le_of_ble_eq_true rfl) (Or.inl rfl) (fun v μ1 => AW.rV (?_ : AW _ _ _ _ 16 _ _ _ _ _ _) v)
  refine AW.aload_n (i := 3) (a := 33) (by decide +kernel) rfl (?_ : AW _ _ _ _ 17 _ _ _ _ _ _)
  refine AW.getR (idx := 340) (ci := 0) (k := 0) (r := 33) (by decide +kernel) rfl rfl rfl (?_ : AW _ _ _ _ 20 _ _ _ _ _ _)
  refine AW.iload_n (i := 1) (a := a1) (by decide +kernel) rfl (?_ : AW _ _ _ _ 21 _ _ _ _ _ _)
  refine AW.iload_n (i := 2) (a := a2) (by decide +kernel) rfl (?_ : AW _ _ _ _ 22 _ _ _ _ _ _)
  refine AW.iastL (r := 34) (by decide +kernel) rfl (fun μ3 => (?_ : AW _ _ _ _ 23 _ _ _ _ _ _))
  refine AW.iconst (n := 0) (by decide +kernel) (?_ : AW _ _ _ _ 24 _ _ _ _ _ _)
  refine AW.istore' (i := 4) (L' := [(4, zI 0), (3, zR (some 33)), (0, zR (some 0)), (1, zI a1), (2, zI a2)]) (by decide +kernel) (by decide) rfl (?_ : AW _ _ _ _ 26 _ _ _ _ _ _)
  refine AW.sub (L' := [(0, zR (some 0)), (3, zR (some 33)), (4, zI 0)]) [2, 1, 0] rfl ?_
  refine l_Ledger_booksUnder_26 (fun μ7 => ?_) zN _ _
  refine AW.aload_n (i := 3) (a := 33) (by decide +kernel) rfl (?_ : AW _ _ _ _ 65 _ _ _ _ _ _)
  exact AW.reta (by decide +kernel) rfl (by decide) (by decide) (by decide)
theorem c_Ledger_booksUnder (l : Launch) (hl : l.stackTraces = false) (a1 : Int) (a2 : Int) (μ : ZMem) (r : ZRes) (h : F_Ledger_booksUnder a1 a2 μ = some r) : ZC l cf_Ledger_booksUnder S_Ledger S_Ledger [zR (some 0), zI a1, zI a2] μ r := ZC.of hl (by decide +kernel) rfl rfl zft_X8_ok (Nat.le_of_ble_eq_true rfl) h (w_Ledger_booksUnder a1 a2 μ)
theorem sb_59 : zSub S_Ledger [33, 34, 35, 36, 37, 38] S_Books3 := ⟨rfl, by decide +kernel, by decide +kernel, rfl⟩
/-! WeirLedger.would(II)J -/
def cf_Ledger_would : ZCf := (yX8_would, cX8_would, 3, some .long, [], 10, 1, 6, zft_X8, none)
theorem cal_Ledger_would : zCallee cf_Ledger_would 2 := ⟨rfl, zc_yX8_would, by decide, by decide, by decide +kernel⟩
theorem thr_Ledger_would_10 : zThr cf_Ledger_would 10 106 108 zEn "java/util/NoSuchElementException" := zThr_of ztw_NoSuchElementException (by decide +kernel) (by decide +kernel) (by decide +kernel) (by decide +kernel) rfl (by decide)
theorem thr_Ledger_would_31 : zThr cf_Ledger_would 31 83 85 zEn "java/lang/IllegalArgumentException" := zThr_of ztw_IllegalArgumentException (by decide +kernel) (by decide +kernel) (by decide +kernel) (by decide +kernel) rfl (by decide)
def J_Ledger_would_10 (μ : ZMem) : Option ZRes := some (.inl "java/util/NoSuchElementException", μ)
set_option maxRecDepth 100000 in
theorem j_Ledger_would_10 (μ : ZMem) : AW cf_Ledger_would S_Ledger.length S_Ledger S_Ledger 10 [] [] μ 0 0 (J_Ledger_would_10 μ) := by
  unfold J_Ledger_would_10
  exact AW.throw thr_Ledger_would_10 (by decide) (by decide) (by decide)
def J_Ledger_would_31 (μ : ZMem) : Option ZRes := some (.inl "java/lang/IllegalArgumentException", μ)
set_option maxRecDepth 100000 in
theorem j_Ledger_would_31 (μ : ZMem) : AW cf_Ledger_would S_Ledger.length S_Ledger S_Ledger 31 [] [] μ 0 0 (J_Ledger_would_31 μ) := by
  unfold J_Ledger_would_31
  exact AW.throw thr_Ledger_would_31 (by decide) (by decide) (by decide)
def F_Ledger_would (a1 : Int) (a2 : Int) (μ : ZMem) : Option ZRes := if w32 a1 < 0 then (J_Ledger_would_10 μ) else (if w32 a1 < w32 6 then (if w32 a2 < 0 then (J_Ledger_would_31 μ) else (zTop a1 (fun x1 => if w32 a2 ≤ w32 x1 then (zC (F_Ledger_booksUnder a1 a2 μ) (zkRc 33 (fun μ2 => zCm [33, 34, 35, 36, 37, 38] μ2 (F_Books_netTaken  (zVw [33, 34, 35, 36, 37, 38] μ2)) (zkJ (fun x5 μ4 => some (.inr (some (zJ x5)), μ4))) zX0)) zX0) else (J_Ledger_would_31 μ)))) else (J_Ledger_would_10 μ))
set_option maxRecDepth 100000 in
theorem w_Ledger_would (a1 : Int) (a2 : Int) (μ : ZMem) : AW cf_Ledger_would S_Ledger.length S_Ledger S_Ledger 0 [(0, zR (some 0)), (1, zI a1), (2, zI a2)] [] μ 0 0 (F_Ledger_would a1 a2 μ) := by
  unfold F_Ledger_would
  refine AW.iload_n (i := 1) (a := a1) (by decide +kernel) rfl (?_ : AW _ _ _ _ 1 _ _ _ _ _ _)
  refine AW.if_lt (off := 9) (tgt := 10) (by decide +kernel) (by decide) (fun _ => ?_) (fun _ => ?_)
  · refine AW.sub (L' := []) [] rfl ?_
    exact j_Ledger_would_10 μ
  · refine AW.iload_n (i := 1) (a := a1) (by decide +kernel) rfl (?_ : AW _ _ _ _ 5 _ _ _ _ _ _)
    refine AW.bipush (n := 6) (by decide +kernel) (by decide +kernel) (?_ : AW _ _ _ _ 7 _ _ _ _ _ _)
    refine AW.icmp_lt (off := 11) (tgt := 18) (by decide +kernel) (by decide) (fun _ => ?_) (fun _ => ?_)
    · refine AW.iload_n (i := 2) (a := a2) (by decide +kernel) rfl (?_ : AW _ _ _ _ 19 _ _ _ _ _ _)
      refine AW.if_lt (off := 12) (tgt := 31) (by decide +kernel) (by decide) (fun _ => ?_) (fun _ => ?_)
      · refine AW.sub (L' := []) [] rfl ?_
        exact j_Ledger_would_31 μ
      · refine AW.iload_n (i := 2) (a := a2) (by decide +kernel) rfl (?_ : AW _ _ _ _ 23 _ _ _ _ _ _)
        refine AW.gtops (idx := 219) (by decide +kernel) zlTT (?_ : AW _ _ _ _ 26 _ _ _ _ _ _)
        refine AW.iload_n (i := 1) (a := a1) (by decide +kernel) rfl (?_ : AW _ _ _ _ 27 _ _ _ _ _ _)
        refine AW.tops (by decide +kernel) (fun x1 => (?_ : AW _ _ _ _ 28 _ _ _ _ _ _))
        refine AW.icmp_le (off := 11) (tgt := 39) (by decide +kernel) (by decide) (fun _ => ?_) (fun _ => ?_)
        · refine AW.aload_n (i := 0) (a := 0) (by decide +kernel) rfl (?_ : AW _ _ _ _ 40 _ _ _ _ _ _)
          refine AW.iload_n (i := 1) (a := a1) (by decide +kernel) rfl (?_ : AW _ _ _ _ 41 _ _ _ _ _ _)
          refine AW.iload_n (i := 2) (a := a2) (by decide +kernel) rfl (?_ : AW _ _ _ _ 42 _ _ _ _ _ _)
          refine AW.callVw (g := cf_Ledger_booksUnder) (av := [zI a1, zI a2]) (b0 := 0) (ci := 8) (idx := 222) (n := 2) (st := []) (by decide +kernel) (fun l hl r hr => c_Ledger_booksUnder l hl a1 a2 _ r hr) S_Ledger_wf rfl cal_Ledger_booksUnder rfl (zw4 zm_X8_222 zi_yX8_booksUnder zs_yX8_booksUnder zn_X8) rfl rfl ⟨by decide, by decide, by decide, by decide⟩ (Nat.le_of_ble_eq_true rfl) (Or.inl rfl) (fun v μ2 => AW.kRc (?_ : AW _ _ _ _ 45 _ _ _ _ _ _) v)
          refine AW.callVm (g := cf_Books_netTaken) (Sg := S_Books3) (pl := [33, 34, 35, 36, 37, 38]) (av := []) (b0 := 0) (ci := 0) (idx := 226) (n := 0) (st := []) (by decide +kernel) (fun l hl r hr => c_Books_netTaken l hl  _ r hr) sb_59 rfl cal_Books_netTaken rfl (zw4 zm_X8_226 zi_yX0_netTaken zs_yX0_netTaken zn_X0) rfl rfl ⟨by decide, by decide, by decide, by decide⟩ (Nat.le_of_ble_eq_true rfl) (Or.inl rfl) (fun v μ4 => AW.rJ (fun x5 => (?_ : AW _ _ _ _ 48 _ _ _ _ _ _)) v)
          exact AW.retl (by decide +kernel) rfl (by decide) (by decide)
        · refine AW.sub (L' := []) [] rfl ?_
          exact j_Ledger_would_31 μ
    · refine AW.sub (L' := []) [] rfl ?_
      exact j_Ledger_would_10 μ
theorem c_Ledger_would (l : Launch) (hl : l.stackTraces = false) (a1 : Int) (a2 : Int) (μ : ZMem) (r : ZRes) (h : F_Ledger_would a1 a2 μ = some r) : ZC l cf_Ledger_would S_Ledger S_Ledger [zR (some 0), zI a1, zI a2] μ r := ZC.of hl (by decide +kernel) rfl rfl zft_X8_ok (Nat.le_of_ble_eq_true rfl) h (w_Ledger_would a1 a2 μ)
/-! WeirLedger.bar(I)I -/
def cf_Ledger_bar : ZCf := (yX8_bar, cX8_bar, 3, some .int, [], 10, 1, 6, zft_X8, none)
theorem cal_Ledger_bar : zCallee cf_Ledger_bar 1 := ⟨rfl, zc_yX8_bar, by decide, by decide, by decide +kernel⟩
theorem thr_Ledger_bar_10 : zThr cf_Ledger_bar 10 83 85 zEn "java/lang/IllegalArgumentException" := zThr_of ztw_IllegalArgumentException (by decide +kernel) (by decide +kernel) (by decide +kernel) (by decide +kernel) rfl (by decide)
def J_Ledger_bar_10 (μ : ZMem) : Option ZRes := some (.inl "java/lang/IllegalArgumentException", μ)
set_option maxRecDepth 100000 in
theorem j_Ledger_bar_10 (μ : ZMem) : AW cf_Ledger_bar S_Ledger.length S_Ledger S_Ledger 10 [] [] μ 0 0 (J_Ledger_bar_10 μ) := by
  unfold J_Ledger_bar_10
  exact AW.throw thr_Ledger_bar_10 (by decide) (by decide) (by decide)
def L_Ledger_bar_24 (c1 : Int) (K : ZMem → Option ZRes) : Nat → Int → ZMem → Option ZRes
  | 0, _, _ => none
  | n + 1, v2, μ => if w32 v2 < 0 then (K  μ) else (zC (F_Ledger_booksUnder 0 v2 μ) (zkRc 33 (fun μ2 => zCm [33, 34, 35, 36, 37, 38] μ2 (F_Books_netTaken  (zVw [33, 34, 35, 36, 37, 38] μ2)) (zkJ (fun x5 μ4 => if w64 x5 < w64 (w32 c1) then (zLet (v2 + (-1)) (fun x6 => L_Ledger_bar_24 c1 K n x6 μ4)) else (some (.inr (some (zI v2)), μ4)))) zX0)) zX0)
set_option maxRecDepth 100000 in
theorem l_Ledger_bar_24 {c1 : Int} {K : ZMem → Option ZRes} (hK : ∀ (μ : ZMem), AW cf_Ledger_bar S_Ledger.length S_Ledger S_Ledger 51 [] [] μ 0 0 (K μ)) : ∀ (n : Nat) (v2 : Int) (μ : ZMem), AW cf_Ledger_bar S_Ledger.length S_Ledger S_Ledger 24 [(0, zR (some 0)), (1, zI c1), (2, zI v2)] [] μ 0 0 (L_Ledger_bar_24 c1 K n v2 μ) := by
  intro n
  induction n with
  | zero => intro v2 μ; exact AW.noth
  | succ n ih =>
    intro v2 μ
    rw [L_Ledger_bar_24]
    refine AW.iload_n (i := 2) (a := v2) (by decide +kernel) rfl (?_ : AW _ _ _ _ 25 _ _ _ _ _ _)
    refine AW.if_lt (off := 26) (tgt := 51) (by decide +kernel) (by decide) (fun _ => ?_) (fun _ => ?_)
    · refine AW.sub (L' := []) [] rfl ?_
      exact hK  μ
    · refine AW.aload_n (i := 0) (a := 0) (by decide +kernel) rfl (?_ : AW _ _ _ _ 29 _ _ _ _ _ _)
      refine AW.iconst (n := 0) (by decide +kernel) (?_ : AW _ _ _ _ 30 _ _ _ _ _ _)
      refine AW.iload_n (i := 2) (a := v2) (by decide +kernel) rfl (?_ : AW _ _ _ _ 31 _ _ _ _ _ _)
      refine AW.callVw (g := cf_Ledger_booksUnder) (av := [zI 0, zI v2]) (b0 := 0) (ci := 8) (idx := 222) (n := 2) (st := []) (by decide +kernel) (fun l hl r hr => c_Ledger_booksUnder l hl 0 v2 _ r hr) S_Ledger_wf rfl cal_Ledger_booksUnder rfl (zw4 zm_X8_222 zi_yX8_booksUnder zs_yX8_booksUnder zn_X8) rfl rfl ⟨by decide, by decide, by decide, by decide⟩ (Nat.le_of_ble_eq_true rfl) (Or.inl rfl) (fun v μ2 => AW.kRc (?_ : AW _ _ _ _ 34 _ _ _ _ _ _) v)
      refine AW.callVm (g := cf_Books_netTaken) (Sg := S_Books3) (pl := [33, 34, 35, 36, 37, 38]) (av := []) (b0 := 0) (ci := 0) (idx := 226) (n := 0) (st := []) (by decide +kernel) (fun l hl r hr => c_Books_netTaken l hl  _ r hr) sb_59 rfl cal_Books_netTaken rfl (zw4 zm_X8_226 zi_yX0_netTaken zs_yX0_netTaken zn_X0) rfl rfl ⟨by decide, by decide, by decide, by decide⟩ (Nat.le_of_ble_eq_true rfl) (Or.inl rfl) (fun v μ4 => AW.rJ (fun x5 => (?_ : AW _ _ _ _ 37 _ _ _ _ _ _)) v)
      refine AW.iload_n (i := 1) (a := c1) (by decide +kernel) rfl (?_ : AW _ _ _ _ 38 _ _ _ _ _ _)
      refine AW.i2l (by decide +kernel) (?_ : AW _ _ _ _ 39 _ _ _ _ _ _)
      refine AW.lcmp_lt (off := 5) (tgt := 45) (by decide +kernel) (by decide +kernel) (by decide) (fun _ => ?_) (fun _ => ?_)
      · refine AW.iincL (i := 2) (n := -1) (a := v2) (L' := fun x6 => [(2, zI x6), (0, zR (some 0)), (1, zI c1)]) (by decide +kernel) rfl (by decide) (fun _ => rfl) (fun x6 => (?_ : AW _ _ _ _ 48 _ _ _ _ _ _))
        refine AW.goto (off := -24) (tgt := 24) (by decide +kernel) (by decide) ?_
        refine AW.sub (L' := [(0, zR (some 0)), (1, zI c1), (2, zI x6)]) [1, 2, 0] rfl ?_
        exact ih x6 μ4
      · refine AW.iload_n (i := 2) (a := v2) (by decide +kernel) rfl (?_ : AW _ _ _ _ 44 _ _ _ _ _ _)
        exact AW.reti (by decide +kernel) rfl (by decide) (by decide)
def F_Ledger_bar (a1 : Int) (μ : ZMem) : Option ZRes := if w32 a1 < 0 then (J_Ledger_bar_10 μ) else (if w32 a1 ≤ w32 99999 then (zTop 0 (fun x1 => L_Ledger_bar_24 a1 (fun μ7 => some (.inr (some (zI (-1))), μ7)) zN x1 μ)) else (J_Ledger_bar_10 μ))
set_option maxRecDepth 100000 in
theorem w_Ledger_bar (a1 : Int) (μ : ZMem) : AW cf_Ledger_bar S_Ledger.length S_Ledger S_Ledger 0 [(0, zR (some 0)), (1, zI a1)] [] μ 0 0 (F_Ledger_bar a1 μ) := by
  unfold F_Ledger_bar
  refine AW.iload_n (i := 1) (a := a1) (by decide +kernel) rfl (?_ : AW _ _ _ _ 1 _ _ _ _ _ _)
  refine AW.if_lt (off := 9) (tgt := 10) (by decide +kernel) (by decide) (fun _ => ?_) (fun _ => ?_)
  · refine AW.sub (L' := []) [] rfl ?_
    exact j_Ledger_bar_10 μ
  · refine AW.iload_n (i := 1) (a := a1) (by decide +kernel) rfl (?_ : AW _ _ _ _ 5 _ _ _ _ _ _)
    refine AW.ldci (idx := 174) (v := 99999) (by decide +kernel) zk_X8_174 (?_ : AW _ _ _ _ 7 _ _ _ _ _ _)
    refine AW.icmp_le (off := 11) (tgt := 18) (by decide +kernel) (by decide) (fun _ => ?_) (fun _ => ?_)
    · refine AW.gtops (idx := 219) (by decide +kernel) zlTT (?_ : AW _ _ _ _ 21 _ _ _ _ _ _)
      refine AW.iconst (n := 0) (by decide +kernel) (?_ : AW _ _ _ _ 22 _ _ _ _ _ _)
      refine AW.tops (by decide +kernel) (fun x1 => (?_ : AW _ _ _ _ 23 _ _ _ _ _ _))
      refine AW.istore_n' (i := 2) (L' := [(2, zI x1), (0, zR (some 0)), (1, zI a1)]) (by decide +kernel) (by decide) rfl (?_ : AW _ _ _ _ 24 _ _ _ _ _ _)
      refine AW.sub (L' := [(0, zR (some 0)), (1, zI a1), (2, zI x1)]) [1, 2, 0] rfl ?_
      refine l_Ledger_bar_24 (fun μ7 => ?_) zN _ _
      refine AW.iconst (n := -1) (by decide +kernel) (?_ : AW _ _ _ _ 52 _ _ _ _ _ _)
      exact AW.reti (by decide +kernel) rfl (by decide) (by decide)
    · refine AW.sub (L' := []) [] rfl ?_
      exact j_Ledger_bar_10 μ
theorem c_Ledger_bar (l : Launch) (hl : l.stackTraces = false) (a1 : Int) (μ : ZMem) (r : ZRes) (h : F_Ledger_bar a1 μ = some r) : ZC l cf_Ledger_bar S_Ledger S_Ledger [zR (some 0), zI a1] μ r := ZC.of hl (by decide +kernel) rfl rfl zft_X8_ok (Nat.le_of_ble_eq_true rfl) h (w_Ledger_bar a1 μ)
/-! WeirLedger.drift(I)J -/
def cf_Ledger_drift : ZCf := (yX8_drift, cX8_drift, 2, some .long, [], 10, 1, 6, zft_X8, none)
theorem cal_Ledger_drift : zCallee cf_Ledger_drift 1 := ⟨rfl, zc_yX8_drift, by decide, by decide, by decide +kernel⟩
theorem thr_Ledger_drift_8 : zThr cf_Ledger_drift 8 117 119 zEn "java/lang/IndexOutOfBoundsException" := zThr_of ztw_IndexOutOfBoundsException (by decide +kernel) (by decide +kernel) (by decide +kernel) (by decide +kernel) rfl (by decide)
def F_Ledger_drift (a1 : Int) (μ : ZMem) : Option ZRes := zC (F_Ledger_isInvestor a1 μ) (zkI (fun x2 μ1 => if w32 x2 = 0 then (some (.inl "java/lang/IndexOutOfBoundsException", μ1)) else (zCm [20, 21, 22, 23, 24, 25, 26, 27, 28] μ1 (F_Register_weighFor (-1) (zVw [20, 21, 22, 23, 24, 25, 26, 27, 28] μ1)) (zkV (fun μ3 => zCm [20, 21, 22, 23, 24, 25, 26, 27, 28] μ3 (F_Register_split (μ3 20 10) (zVw [20, 21, 22, 23, 24, 25, 26, 27, 28] μ3)) (zkV (fun μ5 => zRd μ5 24 6 a1 (fun x7 => zRd μ5 27 6 a1 (fun x8 => some (.inr (some (zJ (x7 - x8))), μ5))))) zX0)) zX0))) zX0
set_option maxRecDepth 100000 in
theorem w_Ledger_drift (a1 : Int) (μ : ZMem) : AW cf_Ledger_drift S_Ledger.length S_Ledger S_Ledger 0 [(0, zR (some 0)), (1, zI a1)] [] μ 0 0 (F_Ledger_drift a1 μ) := by
  unfold F_Ledger_drift
  refine AW.aload_n (i := 0) (a := 0) (by decide +kernel) rfl (?_ : AW _ _ _ _ 1 _ _ _ _ _ _)
  refine AW.iload_n (i := 1) (a := a1) (by decide +kernel) rfl (?_ : AW _ _ _ _ 2 _ _ _ _ _ _)
  refine AW.callVw (g := cf_Ledger_isInvestor) (av := [zI a1]) (b0 := 0) (ci := 8) (idx := 113) (n := 1) (st := []) (by decide +kernel) (fun l hl r hr => c_Ledger_isInvestor l hl a1 _ r hr) S_Ledger_wf rfl cal_Ledger_isInvestor rfl (zw4 zm_X8_113 zi_yX8_isInvestor zs_yX8_isInvestor zn_X8) rfl rfl ⟨by decide, by decide, by decide, by decide⟩ (Nat.le_of_ble_eq_true rfl) (Or.inl rfl) (fun v μ1 => AW.kI (fun x2 => (?_ : AW _ _ _ _ 5 _ _ _ _ _ _)) v)
  refine AW.if_ne (off := 11) (tgt := 16) (by decide +kernel) (by decide) (fun _ => ?_) (fun _ => ?_)
  · exact AW.throw thr_Ledger_drift_8 (by decide) (by decide) (by decide)
  · refine AW.aload_n (i := 0) (a := 0) (by decide +kernel) rfl (?_ : AW _ _ _ _ 17 _ _ _ _ _ _)
    refine AW.getR (idx := 38) (ci := 8) (k := 4) (r := 0) (by decide +kernel) rfl rfl rfl (?_ : AW _ _ _ _ 20 _ _ _ _ _ _)
    refine AW.getR (idx := 120) (ci := 5) (k := 1) (r := 13) (by decide +kernel) rfl rfl rfl (?_ : AW _ _ _ _ 23 _ _ _ _ _ _)
    refine AW.iconst (n := -1) (by decide +kernel) (?_ : AW _ _ _ _ 24 _ _ _ _ _ _)
    refine AW.callVm (g := cf_Register_weighFor) (Sg := S_Register2) (pl := [20, 21, 22, 23, 24, 25, 26, 27, 28]) (av := [zI (-1)]) (b0 := 0) (ci := 4) (idx := 183) (n := 1) (st := []) (by decide +kernel) (fun l hl r hr => c_Register_weighFor l hl (-1) _ r hr) sb_51 rfl cal_Register_weighFor rfl (zw4 zm_X8_183 zi_yX4_weighFor zs_yX4_weighFor zn_X4) rfl rfl ⟨by decide, by decide, by decide, by decide⟩ (Nat.le_of_ble_eq_true rfl) (Or.inl rfl) (fun v μ3 => AW.rV (?_ : AW _ _ _ _ 27 _ _ _ _ _ _) v)
    refine AW.aload_n (i := 0) (a := 0) (by decide +kernel) rfl (?_ : AW _ _ _ _ 28 _ _ _ _ _ _)
    refine AW.getR (idx := 38) (ci := 8) (k := 4) (r := 0) (by decide +kernel) rfl rfl rfl (?_ : AW _ _ _ _ 31 _ _ _ _ _ _)
    refine AW.getR (idx := 120) (ci := 5) (k := 1) (r := 13) (by decide +kernel) rfl rfl rfl (?_ : AW _ _ _ _ 34 _ _ _ _ _ _)
    refine AW.aload_n (i := 0) (a := 0) (by decide +kernel) rfl (?_ : AW _ _ _ _ 35 _ _ _ _ _ _)
    refine AW.getR (idx := 38) (ci := 8) (k := 4) (r := 0) (by decide +kernel) rfl rfl rfl (?_ : AW _ _ _ _ 38 _ _ _ _ _ _)
    refine AW.getR (idx := 120) (ci := 5) (k := 1) (r := 13) (by decide +kernel) rfl rfl rfl (?_ : AW _ _ _ _ 41 _ _ _ _ _ _)
    refine AW.getJ (idx := 203) (ci := 4) (k := 10) (r := 20) (by decide +kernel) rfl rfl rfl (?_ : AW _ _ _ _ 44 _ _ _ _ _ _)
    refine AW.callVm (g := cf_Register_split) (Sg := S_Register2) (pl := [20, 21, 22, 23, 24, 25, 26, 27, 28]) (av := [zJ (μ3 20 10)]) (b0 := 0) (ci := 4) (idx := 186) (n := 1) (st := []) (by decide +kernel) (fun l hl r hr => c_Register_split l hl (μ3 20 10) _ r hr) sb_51 rfl cal_Register_split rfl (zw4 zm_X8_186 zi_yX4_split zs_yX4_split zn_X4) rfl rfl ⟨by decide, by decide, by decide, by decide⟩ (Nat.le_of_ble_eq_true rfl) (Or.inl rfl) (fun v μ5 => AW.rV (?_ : AW _ _ _ _ 47 _ _ _ _ _ _) v)
    refine AW.aload_n (i := 0) (a := 0) (by decide +kernel) rfl (?_ : AW _ _ _ _ 48 _ _ _ _ _ _)
    refine AW.getR (idx := 38) (ci := 8) (k := 4) (r := 0) (by decide +kernel) rfl rfl rfl (?_ : AW _ _ _ _ 51 _ _ _ _ _ _)
    refine AW.getR (idx := 120) (ci := 5) (k := 1) (r := 13) (by decide +kernel) rfl rfl rfl (?_ : AW _ _ _ _ 54 _ _ _ _ _ _)
    refine AW.getR (idx := 135) (ci := 4) (k := 3) (r := 20) (by decide +kernel) rfl rfl rfl (?_ : AW _ _ _ _ 57 _ _ _ _ _ _)
    refine AW.iload_n (i := 1) (a := a1) (by decide +kernel) rfl (?_ : AW _ _ _ _ 58 _ _ _ _ _ _)
    refine AW.lald (r := 24) (by decide +kernel) rfl (fun x7 => (?_ : AW _ _ _ _ 59 _ _ _ _ _ _))
    refine AW.aload_n (i := 0) (a := 0) (by decide +kernel) rfl (?_ : AW _ _ _ _ 60 _ _ _ _ _ _)
    refine AW.getR (idx := 38) (ci := 8) (k := 4) (r := 0) (by decide +kernel) rfl rfl rfl (?_ : AW _ _ _ _ 63 _ _ _ _ _ _)
    refine AW.getR (idx := 120) (ci := 5) (k := 1) (r := 13) (by decide +kernel) rfl rfl rfl (?_ : AW _ _ _ _ 66 _ _ _ _ _ _)
    refine AW.getR (idx := 190) (ci := 4) (k := 6) (r := 20) (by decide +kernel) rfl rfl rfl (?_ : AW _ _ _ _ 69 _ _ _ _ _ _)
    refine AW.iload_n (i := 1) (a := a1) (by decide +kernel) rfl (?_ : AW _ _ _ _ 70 _ _ _ _ _ _)
    refine AW.lald (r := 27) (by decide +kernel) rfl (fun x8 => (?_ : AW _ _ _ _ 71 _ _ _ _ _ _))
    refine AW.lsub (by decide +kernel) (?_ : AW _ _ _ _ 72 _ _ _ _ _ _)
    exact AW.retl (by decide +kernel) rfl (by decide) (by decide)
theorem c_Ledger_drift (l : Launch) (hl : l.stackTraces = false) (a1 : Int) (μ : ZMem) (r : ZRes) (h : F_Ledger_drift a1 μ = some r) : ZC l cf_Ledger_drift S_Ledger S_Ledger [zR (some 0), zI a1] μ r := ZC.of hl (by decide +kernel) rfl rfl zft_X8_ok (Nat.le_of_ble_eq_true rfl) h (w_Ledger_drift a1 μ)
theorem sb_60 : zSub S_Ledger [32, 33, 34, 35, 36, 37, 38, 39, 40, 41, 42, 43, 44, 45, 46, 47, 48, 49, 50, 3, 4, 5, 6] S_State4 := ⟨rfl, by decide +kernel, by decide +kernel, rfl⟩
theorem sb_61 : zSub S_Ledger [32, 33, 34, 35, 36, 37, 38, 39, 40, 41, 42, 43, 44, 45, 46, 47, 48, 49, 50, 11, 12] S_State6 := ⟨rfl, by decide +kernel, by decide +kernel, rfl⟩
/-! WeirLedger.swapped(I)J -/
def cf_Ledger_swapped : ZCf := (yX8_swapped, cX8_swapped, 4, some .long, [], 10, 1, 6, zft_X8, none)
theorem cal_Ledger_swapped : zCallee cf_Ledger_swapped 1 := ⟨rfl, zc_yX8_swapped, by decide, by decide, by decide +kernel⟩
theorem thr_Ledger_swapped_17 : zThr cf_Ledger_swapped 17 117 119 zEn "java/lang/IndexOutOfBoundsException" := zThr_of ztw_IndexOutOfBoundsException (by decide +kernel) (by decide +kernel) (by decide +kernel) (by decide +kernel) rfl (by decide)
def J_Ledger_swapped_17 (μ : ZMem) : Option ZRes := some (.inl "java/lang/IndexOutOfBoundsException", μ)
set_option maxRecDepth 100000 in
theorem j_Ledger_swapped_17 (μ : ZMem) : AW cf_Ledger_swapped S_Ledger.length S_Ledger S_Ledger 17 [] [] μ 0 0 (J_Ledger_swapped_17 μ) := by
  unfold J_Ledger_swapped_17
  exact AW.throw thr_Ledger_swapped_17 (by decide) (by decide) (by decide)
def J_Ledger_swapped_72 (R : Int → ZMem → Option ZRes) (K : ZMem → Option ZRes) (c1 : Int) (u2 : Int) (y0 : Int) (μ : ZMem) : Option ZRes := zCm [32, 33, 34, 35, 36, 37, 38, 39, 40, 41, 42, 43, 44, 45, 46, 47, 48, 49, 50, 11, 12] μ (F_State_follow_w2 y0 (zVw [32, 33, 34, 35, 36, 37, 38, 39, 40, 41, 42, 43, 44, 45, 46, 47, 48, 49, 50, 11, 12] μ)) (zkI (fun x4 μ3 => if w32 x4 = 0 then (some (.inr (some (zJ (-1))), μ3)) else (zLet (u2 + 1) (fun x5 => R x5 μ3)))) zX0
set_option maxRecDepth 100000 in
theorem j_Ledger_swapped_72 {R : Int → ZMem → Option ZRes} {K : ZMem → Option ZRes} (c1 : Int) (hR : ∀ (v2 : Int) (μ : ZMem), AW cf_Ledger_swapped S_Ledger.length S_Ledger S_Ledger 38 [(0, zR (some 0)), (1, zI c1), (2, zI v2)] [] μ 0 0 (R v2 μ)) (hK : ∀ (μ : ZMem), AW cf_Ledger_swapped S_Ledger.length S_Ledger S_Ledger 98 [(0, zR (some 0))] [] μ 0 0 (K μ)) (u2 : Int) (y0 : Int) (μ : ZMem) : AW cf_Ledger_swapped S_Ledger.length S_Ledger S_Ledger 72 [(0, zR (some 0)), (1, zI c1), (2, zI u2)] [zI y0] μ 0 0 (J_Ledger_swapped_72 R K c1 u2 y0 μ) := by
  unfold J_Ledger_swapped_72
  refine AW.istore_n' (i := 3) (L' := [(3, zI y0), (0, zR (some 0)), (1, zI c1), (2, zI u2)]) (by decide +kernel) (by decide) rfl (?_ : AW _ _ _ _ 73 _ _ _ _ _ _)
  refine AW.aload_n (i := 0) (a := 0) (by decide +kernel) rfl (?_ : AW _ _ _ _ 74 _ _ _ _ _ _)
  refine AW.getR (idx := 42) (ci := 8) (k := 5) (r := 0) (by decide +kernel) rfl rfl rfl (?_ : AW _ _ _ _ 77 _ _ _ _ _ _)
  refine AW.aload_n (i := 0) (a := 0) (by decide +kernel) rfl (?_ : AW _ _ _ _ 78 _ _ _ _ _ _)
  refine AW.getR (idx := 29) (ci := 8) (k := 3) (r := 0) (by decide +kernel) rfl rfl rfl (?_ : AW _ _ _ _ 81 _ _ _ _ _ _)
  refine AW.iload_n (i := 3) (a := y0) (by decide +kernel) rfl (?_ : AW _ _ _ _ 82 _ _ _ _ _ _)
  refine AW.callVm (g := cf_State_follow_w2) (Sg := S_State6) (pl := [32, 33, 34, 35, 36, 37, 38, 39, 40, 41, 42, 43, 44, 45, 46, 47, 48, 49, 50, 11, 12]) (av := [zR (some 19), zI y0]) (b0 := 0) (ci := 5) (idx := 232) (n := 2) (st := []) (by decide +kernel) (fun l hl r hr => c_State_follow_w2 l hl y0 _ r hr) sb_61 rfl cal_State_follow_w2 rfl (zw4 zm_X8_232 zi_yX5_follow zs_yX5_follow zn_X5) rfl rfl ⟨by decide, by decide, by decide, by decide⟩ (Nat.le_of_ble_eq_true rfl) (Or.inl rfl) (fun v μ3 => AW.rI (fun x4 => (?_ : AW _ _ _ _ 85 _ _ _ _ _ _)) v)
  refine AW.if_ne (off := 7) (tgt := 92) (by decide +kernel) (by decide) (fun _ => ?_) (fun _ => ?_)
  · refine AW.ldc2 (idx := 214) (v := -1) (by decide +kernel) zk_X8_214 (?_ : AW _ _ _ _ 91 _ _ _ _ _ _)
    exact AW.retl (by decide +kernel) rfl (by decide) (by decide)
  · refine AW.iincL (i := 2) (n := 1) (a := u2) (L' := fun x5 => [(2, zI x5), (3, zI y0), (0, zR (some 0)), (1, zI c1)]) (by decide +kernel) rfl (by decide) (fun _ => rfl) (fun x5 => (?_ : AW _ _ _ _ 95 _ _ _ _ _ _))
    refine AW.goto (off := -57) (tgt := 38) (by decide +kernel) (by decide) ?_
    refine AW.sub (L' := [(0, zR (some 0)), (1, zI c1), (2, zI x5)]) [2, 3, 0] rfl ?_
    exact hR x5 μ3
def L_Ledger_swapped_38 (c1 : Int) (K : ZMem → Option ZRes) : Nat → Int → ZMem → Option ZRes
  | 0, _, _ => none
  | n + 1, v2, μ => if w32 (μ 11 1) ≤ w32 v2 then (K  μ) else (if w32 v2 = w32 c1 then (J_Ledger_swapped_72 (fun v2 μ => L_Ledger_swapped_38 c1 K n v2 μ) K c1 v2 (c1 + 1) μ) else (if w32 v2 = w32 (c1 + 1) then (J_Ledger_swapped_72 (fun v2 μ => L_Ledger_swapped_38 c1 K n v2 μ) K c1 v2 c1 μ) else (J_Ledger_swapped_72 (fun v2 μ => L_Ledger_swapped_38 c1 K n v2 μ) K c1 v2 v2 μ)))
set_option maxRecDepth 100000 in
theorem l_Ledger_swapped_38 {c1 : Int} {K : ZMem → Option ZRes} (hK : ∀ (μ : ZMem), AW cf_Ledger_swapped S_Ledger.length S_Ledger S_Ledger 98 [(0, zR (some 0))] [] μ 0 0 (K μ)) : ∀ (n : Nat) (v2 : Int) (μ : ZMem), AW cf_Ledger_swapped S_Ledger.length S_Ledger S_Ledger 38 [(0, zR (some 0)), (1, zI c1), (2, zI v2)] [] μ 0 0 (L_Ledger_swapped_38 c1 K n v2 μ) := by
  intro n
  induction n with
  | zero => intro v2 μ; exact AW.noth
  | succ n ih =>
    intro v2 μ
    rw [L_Ledger_swapped_38]
    refine AW.iload_n (i := 2) (a := v2) (by decide +kernel) rfl (?_ : AW _ _ _ _ 39 _ _ _ _ _ _)
    refine AW.aload_n (i := 0) (a := 0) (by decide +kernel) rfl (?_ : AW _ _ _ _ 40 _ _ _ _ _ _)
    refine AW.getR (idx := 29) (ci := 8) (k := 3) (r := 0) (by decide +kernel) rfl rfl rfl (?_ : AW _ _ _ _ 43 _ _ _ _ _ _)
    refine AW.getI (idx := 90) (ci := 2) (k := 1) (r := 11) (by decide +kernel) rfl rfl rfl (?_ : AW _ _ _ _ 46 _ _ _ _ _ _)
    refine AW.icmp_ge (off := 52) (tgt := 98) (by decide +kernel) (by decide) (fun _ => ?_) (fun _ => ?_)
    · refine AW.sub (L' := [(0, zR (some 0))]) [0] rfl ?_
      exact hK  μ
    · refine AW.iload_n (i := 2) (a := v2) (by decide +kernel) rfl (?_ : AW _ _ _ _ 50 _ _ _ _ _ _)
      refine AW.iload_n (i := 1) (a := c1) (by decide +kernel) rfl (?_ : AW _ _ _ _ 51 _ _ _ _ _ _)
      refine AW.icmp_ne (off := 9) (tgt := 60) (by decide +kernel) (by decide) (fun _ => ?_) (fun _ => ?_)
      · refine AW.iload_n (i := 1) (a := c1) (by decide +kernel) rfl (?_ : AW _ _ _ _ 55 _ _ _ _ _ _)
        refine AW.iconst (n := 1) (by decide +kernel) (?_ : AW _ _ _ _ 56 _ _ _ _ _ _)
        refine AW.iadd (by decide +kernel) (?_ : AW _ _ _ _ 57 _ _ _ _ _ _)
        refine AW.goto (off := 15) (tgt := 72) (by decide +kernel) (by decide) ?_
        exact j_Ledger_swapped_72 c1 ih hK v2 (c1 + 1) μ
      · refine AW.iload_n (i := 2) (a := v2) (by decide +kernel) rfl (?_ : AW _ _ _ _ 61 _ _ _ _ _ _)
        refine AW.iload_n (i := 1) (a := c1) (by decide +kernel) rfl (?_ : AW _ _ _ _ 62 _ _ _ _ _ _)
        refine AW.iconst (n := 1) (by decide +kernel) (?_ : AW _ _ _ _ 63 _ _ _ _ _ _)
        refine AW.iadd (by decide +kernel) (?_ : AW _ _ _ _ 64 _ _ _ _ _ _)
        refine AW.icmp_ne (off := 7) (tgt := 71) (by decide +kernel) (by decide) (fun _ => ?_) (fun _ => ?_)
        · refine AW.iload_n (i := 1) (a := c1) (by decide +kernel) rfl (?_ : AW _ _ _ _ 68 _ _ _ _ _ _)
          refine AW.goto (off := 4) (tgt := 72) (by decide +kernel) (by decide) ?_
          exact j_Ledger_swapped_72 c1 ih hK v2 c1 μ
        · refine AW.iload_n (i := 2) (a := v2) (by decide +kernel) rfl (?_ : AW _ _ _ _ 72 _ _ _ _ _ _)
          exact j_Ledger_swapped_72 c1 ih hK v2 v2 μ
def F_Ledger_swapped (a1 : Int) (μ : ZMem) : Option ZRes := if w32 a1 < 0 then (J_Ledger_swapped_17 μ) else (if w32 a1 < w32 ((μ 11 1) - 1) then (zCm [32, 33, 34, 35, 36, 37, 38, 39, 40, 41, 42, 43, 44, 45, 46, 47, 48, 49, 50, 3, 4, 5, 6] μ (F_State_open_w2  (zVw [32, 33, 34, 35, 36, 37, 38, 39, 40, 41, 42, 43, 44, 45, 46, 47, 48, 49, 50, 3, 4, 5, 6] μ)) (zkV (fun μ1 => L_Ledger_swapped_38 a1 (fun μ6 => zCm [33, 34, 35, 36, 37, 38] μ6 (F_Books_netTaken  (zVw [33, 34, 35, 36, 37, 38] μ6)) (zkJ (fun x8 μ7 => some (.inr (some (zJ x8)), μ7))) zX0) zN 0 μ1)) zX0) else (J_Ledger_swapped_17 μ))
set_option maxRecDepth 100000 in
theorem w_Ledger_swapped (a1 : Int) (μ : ZMem) : AW cf_Ledger_swapped S_Ledger.length S_Ledger S_Ledger 0 [(0, zR (some 0)), (1, zI a1)] [] μ 0 0 (F_Ledger_swapped a1 μ) := by
  unfold F_Ledger_swapped
  refine AW.iload_n (i := 1) (a := a1) (by decide +kernel) rfl (?_ : AW _ _ _ _ 1 _ _ _ _ _ _)
  refine AW.if_lt (off := 16) (tgt := 17) (by decide +kernel) (by decide) (fun _ => ?_) (fun _ => ?_)
  · refine AW.sub (L' := []) [] rfl ?_
    exact j_Ledger_swapped_17 μ
  · refine AW.iload_n (i := 1) (a := a1) (by decide +kernel) rfl (?_ : AW _ _ _ _ 5 _ _ _ _ _ _)
    refine AW.aload_n (i := 0) (a := 0) (by decide +kernel) rfl (?_ : AW _ _ _ _ 6 _ _ _ _ _ _)
    refine AW.getR (idx := 29) (ci := 8) (k := 3) (r := 0) (by decide +kernel) rfl rfl rfl (?_ : AW _ _ _ _ 9 _ _ _ _ _ _)
    refine AW.getI (idx := 90) (ci := 2) (k := 1) (r := 11) (by decide +kernel) rfl rfl rfl (?_ : AW _ _ _ _ 12 _ _ _ _ _ _)
    refine AW.iconst (n := 1) (by decide +kernel) (?_ : AW _ _ _ _ 13 _ _ _ _ _ _)
    refine AW.isub (by decide +kernel) (?_ : AW _ _ _ _ 14 _ _ _ _ _ _)
    refine AW.icmp_lt (off := 11) (tgt := 25) (by decide +kernel) (by decide) (fun _ => ?_) (fun _ => ?_)
    · refine AW.aload_n (i := 0) (a := 0) (by decide +kernel) rfl (?_ : AW _ _ _ _ 26 _ _ _ _ _ _)
      refine AW.getR (idx := 42) (ci := 8) (k := 5) (r := 0) (by decide +kernel) rfl rfl rfl (?_ : AW _ _ _ _ 29 _ _ _ _ _ _)
      refine AW.aload_n (i := 0) (a := 0) (by decide +kernel) rfl (?_ : AW _ _ _ _ 30 _ _ _ _ _ _)
      refine AW.getR (idx := 19) (ci := 8) (k := 1) (r := 0) (by decide +kernel) rfl rfl rfl (?_ : AW _ _ _ _ 33 _ _ _ _ _ _)
      refine AW.callVm (g := cf_State_open_w2) (Sg := S_State4) (pl := [32, 33, 34, 35, 36, 37, 38, 39, 40, 41, 42, 43, 44, 45, 46, 47, 48, 49, 50, 3, 4, 5, 6]) (av := [zR (some 19)]) (b0 := 0) (ci := 5) (idx := 229) (n := 1) (st := []) (by decide +kernel) (fun l hl r hr => c_State_open_w2 l hl  _ r hr) sb_60 rfl cal_State_open_w2 rfl (zw4 zm_X8_229 zi_yX5_open zs_yX5_open zn_X5) rfl rfl ⟨by decide, by decide, by decide, by decide⟩ (Nat.le_of_ble_eq_true rfl) (Or.inl rfl) (fun v μ1 => AW.rV (?_ : AW _ _ _ _ 36 _ _ _ _ _ _) v)
      refine AW.iconst (n := 0) (by decide +kernel) (?_ : AW _ _ _ _ 37 _ _ _ _ _ _)
      refine AW.istore_n' (i := 2) (L' := [(2, zI 0), (0, zR (some 0)), (1, zI a1)]) (by decide +kernel) (by decide) rfl (?_ : AW _ _ _ _ 38 _ _ _ _ _ _)
      refine AW.sub (L' := [(0, zR (some 0)), (1, zI a1), (2, zI 0)]) [1, 2, 0] rfl ?_
      refine l_Ledger_swapped_38 (fun μ6 => ?_) zN _ _
      refine AW.aload_n (i := 0) (a := 0) (by decide +kernel) rfl (?_ : AW _ _ _ _ 99 _ _ _ _ _ _)
      refine AW.getR (idx := 42) (ci := 8) (k := 5) (r := 0) (by decide +kernel) rfl rfl rfl (?_ : AW _ _ _ _ 102 _ _ _ _ _ _)
      refine AW.getR (idx := 152) (ci := 5) (k := 0) (r := 32) (by decide +kernel) rfl rfl rfl (?_ : AW _ _ _ _ 105 _ _ _ _ _ _)
      refine AW.callVm (g := cf_Books_netTaken) (Sg := S_Books3) (pl := [33, 34, 35, 36, 37, 38]) (av := []) (b0 := 0) (ci := 0) (idx := 226) (n := 0) (st := []) (by decide +kernel) (fun l hl r hr => c_Books_netTaken l hl  _ r hr) sb_59 rfl cal_Books_netTaken rfl (zw4 zm_X8_226 zi_yX0_netTaken zs_yX0_netTaken zn_X0) rfl rfl ⟨by decide, by decide, by decide, by decide⟩ (Nat.le_of_ble_eq_true rfl) (Or.inl rfl) (fun v μ7 => AW.rJ (fun x8 => (?_ : AW _ _ _ _ 108 _ _ _ _ _ _)) v)
      exact AW.retl (by decide +kernel) rfl (by decide) (by decide)
    · refine AW.sub (L' := []) [] rfl ?_
      exact j_Ledger_swapped_17 μ
theorem c_Ledger_swapped (l : Launch) (hl : l.stackTraces = false) (a1 : Int) (μ : ZMem) (r : ZRes) (h : F_Ledger_swapped a1 μ = some r) : ZC l cf_Ledger_swapped S_Ledger S_Ledger [zR (some 0), zI a1] μ r := ZC.of hl (by decide +kernel) rfl rfl zft_X8_ok (Nat.le_of_ble_eq_true rfl) h (w_Ledger_swapped a1 μ)
/-! WeirLedger.netTakenWithout(I)J -/
def cf_Ledger_netTakenWithout : ZCf := (yX8_netTakenWithout, cX8_netTakenWithout, 3, some .long, [], 7, 0, 0, zft_X8, none)
theorem cal_Ledger_netTakenWithout : zCallee cf_Ledger_netTakenWithout 1 := ⟨rfl, zc_yX8_netTakenWithout, by decide, by decide, by decide +kernel⟩
def J_Ledger_netTakenWithout_42 (R : Int → ZMem → Option ZRes) (K : ZMem → Option ZRes) (c1 : Int) (u2 : Int) (μ : ZMem) : Option ZRes := zLet (u2 + 1) (fun x3 => R x3 μ)
set_option maxRecDepth 100000 in
theorem j_Ledger_netTakenWithout_42 {R : Int → ZMem → Option ZRes} {K : ZMem → Option ZRes} (c1 : Int) (hR : ∀ (v2 : Int) (μ : ZMem), AW cf_Ledger_netTakenWithout S_Ledger.length S_Ledger S_Ledger 13 [(0, zR (some 0)), (1, zI c1), (2, zI v2)] [] μ 0 0 (R v2 μ)) (hK : ∀ (μ : ZMem), AW cf_Ledger_netTakenWithout S_Ledger.length S_Ledger S_Ledger 48 [(0, zR (some 0))] [] μ 0 0 (K μ)) (u2 : Int) (μ : ZMem) : AW cf_Ledger_netTakenWithout S_Ledger.length S_Ledger S_Ledger 42 [(0, zR (some 0)), (1, zI c1), (2, zI u2)] [] μ 0 0 (J_Ledger_netTakenWithout_42 R K c1 u2 μ) := by
  unfold J_Ledger_netTakenWithout_42
  refine AW.iincL (i := 2) (n := 1) (a := u2) (L' := fun x3 => [(2, zI x3), (0, zR (some 0)), (1, zI c1)]) (by decide +kernel) rfl (by decide) (fun _ => rfl) (fun x3 => (?_ : AW _ _ _ _ 45 _ _ _ _ _ _))
  refine AW.goto (off := -32) (tgt := 13) (by decide +kernel) (by decide) ?_
  refine AW.sub (L' := [(0, zR (some 0)), (1, zI c1), (2, zI x3)]) [1, 2, 0] rfl ?_
  exact hR x3 μ
def L_Ledger_netTakenWithout_13 (c1 : Int) (K : ZMem → Option ZRes) : Nat → Int → ZMem → Option ZRes
  | 0, _, _ => none
  | n + 1, v2, μ => if w32 (μ 11 1) ≤ w32 v2 then (K  μ) else (if w32 v2 = w32 c1 then (J_Ledger_netTakenWithout_42 (fun v2 μ => L_Ledger_netTakenWithout_13 c1 K n v2 μ) K c1 v2 μ) else (zCm [32, 33, 34, 35, 36, 37, 38, 39, 40, 41, 42, 43, 44, 45, 46, 47, 48, 49, 50, 11, 12] μ (F_State_follow_w2 v2 (zVw [32, 33, 34, 35, 36, 37, 38, 39, 40, 41, 42, 43, 44, 45, 46, 47, 48, 49, 50, 11, 12] μ)) (zkI (fun x5 μ4 => J_Ledger_netTakenWithout_42 (fun v2 μ => L_Ledger_netTakenWithout_13 c1 K n v2 μ) K c1 v2 μ4)) zX0))
set_option maxRecDepth 100000 in
theorem l_Ledger_netTakenWithout_13 {c1 : Int} {K : ZMem → Option ZRes} (hK : ∀ (μ : ZMem), AW cf_Ledger_netTakenWithout S_Ledger.length S_Ledger S_Ledger 48 [(0, zR (some 0))] [] μ 0 0 (K μ)) : ∀ (n : Nat) (v2 : Int) (μ : ZMem), AW cf_Ledger_netTakenWithout S_Ledger.length S_Ledger S_Ledger 13 [(0, zR (some 0)), (1, zI c1), (2, zI v2)] [] μ 0 0 (L_Ledger_netTakenWithout_13 c1 K n v2 μ) := by
  intro n
  induction n with
  | zero => intro v2 μ; exact AW.noth
  | succ n ih =>
    intro v2 μ
    rw [L_Ledger_netTakenWithout_13]
    refine AW.iload_n (i := 2) (a := v2) (by decide +kernel) rfl (?_ : AW _ _ _ _ 14 _ _ _ _ _ _)
    refine AW.aload_n (i := 0) (a := 0) (by decide +kernel) rfl (?_ : AW _ _ _ _ 15 _ _ _ _ _ _)
    refine AW.getR (idx := 29) (ci := 8) (k := 3) (r := 0) (by decide +kernel) rfl rfl rfl (?_ : AW _ _ _ _ 18 _ _ _ _ _ _)
    refine AW.getI (idx := 90) (ci := 2) (k := 1) (r := 11) (by decide +kernel) rfl rfl rfl (?_ : AW _ _ _ _ 21 _ _ _ _ _ _)
    refine AW.icmp_ge (off := 27) (tgt := 48) (by decide +kernel) (by decide) (fun _ => ?_) (fun _ => ?_)
    · refine AW.sub (L' := [(0, zR (some 0))]) [0] rfl ?_
      exact hK  μ
    · refine AW.iload_n (i := 2) (a := v2) (by decide +kernel) rfl (?_ : AW _ _ _ _ 25 _ _ _ _ _ _)
      refine AW.iload_n (i := 1) (a := c1) (by decide +kernel) rfl (?_ : AW _ _ _ _ 26 _ _ _ _ _ _)
      refine AW.icmp_eq (off := 16) (tgt := 42) (by decide +kernel) (by decide) (fun _ => ?_) (fun _ => ?_)
      · exact j_Ledger_netTakenWithout_42 c1 ih hK v2 μ
      · refine AW.aload_n (i := 0) (a := 0) (by decide +kernel) rfl (?_ : AW _ _ _ _ 30 _ _ _ _ _ _)
        refine AW.getR (idx := 42) (ci := 8) (k := 5) (r := 0) (by decide +kernel) rfl rfl rfl (?_ : AW _ _ _ _ 33 _ _ _ _ _ _)
        refine AW.aload_n (i := 0) (a := 0) (by decide +kernel) rfl (?_ : AW _ _ _ _ 34 _ _ _ _ _ _)
        refine AW.getR (idx := 29) (ci := 8) (k := 3) (r := 0) (by decide +kernel) rfl rfl rfl (?_ : AW _ _ _ _ 37 _ _ _ _ _ _)
        refine AW.iload_n (i := 2) (a := v2) (by decide +kernel) rfl (?_ : AW _ _ _ _ 38 _ _ _ _ _ _)
        refine AW.callVm (g := cf_State_follow_w2) (Sg := S_State6) (pl := [32, 33, 34, 35, 36, 37, 38, 39, 40, 41, 42, 43, 44, 45, 46, 47, 48, 49, 50, 11, 12]) (av := [zR (some 19), zI v2]) (b0 := 0) (ci := 5) (idx := 232) (n := 2) (st := []) (by decide +kernel) (fun l hl r hr => c_State_follow_w2 l hl v2 _ r hr) sb_61 rfl cal_State_follow_w2 rfl (zw4 zm_X8_232 zi_yX5_follow zs_yX5_follow zn_X5) rfl rfl ⟨by decide, by decide, by decide, by decide⟩ (Nat.le_of_ble_eq_true rfl) (Or.inl rfl) (fun v μ4 => AW.rI (fun x5 => (?_ : AW _ _ _ _ 41 _ _ _ _ _ _)) v)
        refine AW.pop (by decide +kernel) rfl (?_ : AW _ _ _ _ 42 _ _ _ _ _ _)
        exact j_Ledger_netTakenWithout_42 c1 ih hK v2 μ4
def F_Ledger_netTakenWithout (a1 : Int) (μ : ZMem) : Option ZRes := zCm [32, 33, 34, 35, 36, 37, 38, 39, 40, 41, 42, 43, 44, 45, 46, 47, 48, 49, 50, 3, 4, 5, 6] μ (F_State_open_w2  (zVw [32, 33, 34, 35, 36, 37, 38, 39, 40, 41, 42, 43, 44, 45, 46, 47, 48, 49, 50, 3, 4, 5, 6] μ)) (zkV (fun μ1 => L_Ledger_netTakenWithout_13 a1 (fun μ6 => zCm [33, 34, 35, 36, 37, 38] μ6 (F_Books_netTaken  (zVw [33, 34, 35, 36, 37, 38] μ6)) (zkJ (fun x8 μ7 => some (.inr (some (zJ x8)), μ7))) zX0) zN 0 μ1)) zX0
set_option maxRecDepth 100000 in
theorem w_Ledger_netTakenWithout (a1 : Int) (μ : ZMem) : AW cf_Ledger_netTakenWithout S_Ledger.length S_Ledger S_Ledger 0 [(0, zR (some 0)), (1, zI a1)] [] μ 0 0 (F_Ledger_netTakenWithout a1 μ) := by
  unfold F_Ledger_netTakenWithout
  refine AW.aload_n (i := 0) (a := 0) (by decide +kernel) rfl (?_ : AW _ _ _ _ 1 _ _ _ _ _ _)
  refine AW.getR (idx := 42) (ci := 8) (k := 5) (r := 0) (by decide +kernel) rfl rfl rfl (?_ : AW _ _ _ _ 4 _ _ _ _ _ _)
  refine AW.aload_n (i := 0) (a := 0) (by decide +kernel) rfl (?_ : AW _ _ _ _ 5 _ _ _ _ _ _)
  refine AW.getR (idx := 19) (ci := 8) (k := 1) (r := 0) (by decide +kernel) rfl rfl rfl (?_ : AW _ _ _ _ 8 _ _ _ _ _ _)
  refine AW.callVm (g := cf_State_open_w2) (Sg := S_State4) (pl := [32, 33, 34, 35, 36, 37, 38, 39, 40, 41, 42, 43, 44, 45, 46, 47, 48, 49, 50, 3, 4, 5, 6]) (av := [zR (some 19)]) (b0 := 0) (ci := 5) (idx := 229) (n := 1) (st := []) (by decide +kernel) (fun l hl r hr => c_State_open_w2 l hl  _ r hr) sb_60 rfl cal_State_open_w2 rfl (zw4 zm_X8_229 zi_yX5_open zs_yX5_open zn_X5) rfl rfl ⟨by decide, by decide, by decide, by decide⟩ (Nat.le_of_ble_eq_true rfl) (Or.inl rfl) (fun v μ1 => AW.rV (?_ : AW _ _ _ _ 11 _ _ _ _ _ _) v)
  refine AW.iconst (n := 0) (by decide +kernel) (?_ : AW _ _ _ _ 12 _ _ _ _ _ _)
  refine AW.istore_n' (i := 2) (L' := [(2, zI 0), (0, zR (some 0)), (1, zI a1)]) (by decide +kernel) (by decide) rfl (?_ : AW _ _ _ _ 13 _ _ _ _ _ _)
  refine AW.sub (L' := [(0, zR (some 0)), (1, zI a1), (2, zI 0)]) [1, 2, 0] rfl ?_
  refine l_Ledger_netTakenWithout_13 (fun μ6 => ?_) zN _ _
  refine AW.aload_n (i := 0) (a := 0) (by decide +kernel) rfl (?_ : AW _ _ _ _ 49 _ _ _ _ _ _)
  refine AW.getR (idx := 42) (ci := 8) (k := 5) (r := 0) (by decide +kernel) rfl rfl rfl (?_ : AW _ _ _ _ 52 _ _ _ _ _ _)
  refine AW.getR (idx := 152) (ci := 5) (k := 0) (r := 32) (by decide +kernel) rfl rfl rfl (?_ : AW _ _ _ _ 55 _ _ _ _ _ _)
  refine AW.callVm (g := cf_Books_netTaken) (Sg := S_Books3) (pl := [33, 34, 35, 36, 37, 38]) (av := []) (b0 := 0) (ci := 0) (idx := 226) (n := 0) (st := []) (by decide +kernel) (fun l hl r hr => c_Books_netTaken l hl  _ r hr) sb_59 rfl cal_Books_netTaken rfl (zw4 zm_X8_226 zi_yX0_netTaken zs_yX0_netTaken zn_X0) rfl rfl ⟨by decide, by decide, by decide, by decide⟩ (Nat.le_of_ble_eq_true rfl) (Or.inl rfl) (fun v μ7 => AW.rJ (fun x8 => (?_ : AW _ _ _ _ 58 _ _ _ _ _ _)) v)
  exact AW.retl (by decide +kernel) rfl (by decide) (by decide)
theorem c_Ledger_netTakenWithout (l : Launch) (hl : l.stackTraces = false) (a1 : Int) (μ : ZMem) (r : ZRes) (h : F_Ledger_netTakenWithout a1 μ = some r) : ZC l cf_Ledger_netTakenWithout S_Ledger S_Ledger [zR (some 0), zI a1] μ r := ZC.of hl (by decide +kernel) rfl rfl zft_X8_ok (Nat.le_of_ble_eq_true rfl) h (w_Ledger_netTakenWithout a1 μ)
/-! WeirLedger.without(I)J -/
def cf_Ledger_without : ZCf := (yX8_without, cX8_without, 2, some .long, [], 10, 1, 6, zft_X8, none)
theorem cal_Ledger_without : zCallee cf_Ledger_without 1 := ⟨rfl, zc_yX8_without, by decide, by decide, by decide +kernel⟩
theorem thr_Ledger_without_15 : zThr cf_Ledger_without 15 117 119 zEn "java/lang/IndexOutOfBoundsException" := zThr_of ztw_IndexOutOfBoundsException (by decide +kernel) (by decide +kernel) (by decide +kernel) (by decide +kernel) rfl (by decide)
def J_Ledger_without_15 (μ : ZMem) : Option ZRes := some (.inl "java/lang/IndexOutOfBoundsException", μ)
set_option maxRecDepth 100000 in
theorem j_Ledger_without_15 (μ : ZMem) : AW cf_Ledger_without S_Ledger.length S_Ledger S_Ledger 15 [] [] μ 0 0 (J_Ledger_without_15 μ) := by
  unfold J_Ledger_without_15
  exact AW.throw thr_Ledger_without_15 (by decide) (by decide) (by decide)
def F_Ledger_without (a1 : Int) (μ : ZMem) : Option ZRes := if w32 a1 < 0 then (J_Ledger_without_15 μ) else (if w32 a1 < w32 (μ 11 1) then (zC (F_Ledger_netTakenWithout a1 μ) (zkJ (fun x2 μ1 => some (.inr (some (zJ x2)), μ1))) zX0) else (J_Ledger_without_15 μ))
set_option maxRecDepth 100000 in
theorem w_Ledger_without (a1 : Int) (μ : ZMem) : AW cf_Ledger_without S_Ledger.length S_Ledger S_Ledger 0 [(0, zR (some 0)), (1, zI a1)] [] μ 0 0 (F_Ledger_without a1 μ) := by
  unfold F_Ledger_without
  refine AW.iload_n (i := 1) (a := a1) (by decide +kernel) rfl (?_ : AW _ _ _ _ 1 _ _ _ _ _ _)
  refine AW.if_lt (off := 14) (tgt := 15) (by decide +kernel) (by decide) (fun _ => ?_) (fun _ => ?_)
  · refine AW.sub (L' := []) [] rfl ?_
    exact j_Ledger_without_15 μ
  · refine AW.iload_n (i := 1) (a := a1) (by decide +kernel) rfl (?_ : AW _ _ _ _ 5 _ _ _ _ _ _)
    refine AW.aload_n (i := 0) (a := 0) (by decide +kernel) rfl (?_ : AW _ _ _ _ 6 _ _ _ _ _ _)
    refine AW.getR (idx := 29) (ci := 8) (k := 3) (r := 0) (by decide +kernel) rfl rfl rfl (?_ : AW _ _ _ _ 9 _ _ _ _ _ _)
    refine AW.getI (idx := 90) (ci := 2) (k := 1) (r := 11) (by decide +kernel) rfl rfl rfl (?_ : AW _ _ _ _ 12 _ _ _ _ _ _)
    refine AW.icmp_lt (off := 11) (tgt := 23) (by decide +kernel) (by decide) (fun _ => ?_) (fun _ => ?_)
    · refine AW.aload_n (i := 0) (a := 0) (by decide +kernel) rfl (?_ : AW _ _ _ _ 24 _ _ _ _ _ _)
      refine AW.iload_n (i := 1) (a := a1) (by decide +kernel) rfl (?_ : AW _ _ _ _ 25 _ _ _ _ _ _)
      refine AW.callVw (g := cf_Ledger_netTakenWithout) (av := [zI a1]) (b0 := 0) (ci := 8) (idx := 236) (n := 1) (st := []) (by decide +kernel) (fun l hl r hr => c_Ledger_netTakenWithout l hl a1 _ r hr) S_Ledger_wf rfl cal_Ledger_netTakenWithout rfl (zw4 zm_X8_236 zi_yX8_netTakenWithout zs_yX8_netTakenWithout zn_X8) rfl rfl ⟨by decide, by decide, by decide, by decide⟩ (Nat.le_of_ble_eq_true rfl) (Or.inl rfl) (fun v μ1 => AW.kJ (fun x2 => (?_ : AW _ _ _ _ 28 _ _ _ _ _ _)) v)
      exact AW.retl (by decide +kernel) rfl (by decide) (by decide)
    · refine AW.sub (L' := []) [] rfl ?_
      exact j_Ledger_without_15 μ
theorem c_Ledger_without (l : Launch) (hl : l.stackTraces = false) (a1 : Int) (μ : ZMem) (r : ZRes) (h : F_Ledger_without a1 μ = some r) : ZC l cf_Ledger_without S_Ledger S_Ledger [zR (some 0), zI a1] μ r := ZC.of hl (by decide +kernel) rfl rfl zft_X8_ok (Nat.le_of_ble_eq_true rfl) h (w_Ledger_without a1 μ)
theorem sb_62 : zSub S_Ledger [39, 40, 41, 42, 43, 44, 45, 46, 47] S_Register2 := ⟨rfl, by decide +kernel, by decide +kernel, rfl⟩
/-! WeirLedger.behind(II)J -/
def cf_Ledger_behind : ZCf := (yX8_behind, cX8_behind, 4, some .long, [], 10, 1, 6, zft_X8, none)
theorem cal_Ledger_behind : zCallee cf_Ledger_behind 2 := ⟨rfl, zc_yX8_behind, by decide, by decide, by decide +kernel⟩
theorem thr_Ledger_behind_15 : zThr cf_Ledger_behind 15 117 119 zEn "java/lang/IndexOutOfBoundsException" := zThr_of ztw_IndexOutOfBoundsException (by decide +kernel) (by decide +kernel) (by decide +kernel) (by decide +kernel) rfl (by decide)
theorem thr_Ledger_behind_32 : zThr cf_Ledger_behind 32 106 108 zEn "java/util/NoSuchElementException" := zThr_of ztw_NoSuchElementException (by decide +kernel) (by decide +kernel) (by decide +kernel) (by decide +kernel) rfl (by decide)
def J_Ledger_behind_15 (μ : ZMem) : Option ZRes := some (.inl "java/lang/IndexOutOfBoundsException", μ)
set_option maxRecDepth 100000 in
theorem j_Ledger_behind_15 (μ : ZMem) : AW cf_Ledger_behind S_Ledger.length S_Ledger S_Ledger 15 [] [] μ 0 0 (J_Ledger_behind_15 μ) := by
  unfold J_Ledger_behind_15
  exact AW.throw thr_Ledger_behind_15 (by decide) (by decide) (by decide)
def J_Ledger_behind_32 (μ : ZMem) : Option ZRes := some (.inl "java/util/NoSuchElementException", μ)
set_option maxRecDepth 100000 in
theorem j_Ledger_behind_32 (μ : ZMem) : AW cf_Ledger_behind S_Ledger.length S_Ledger S_Ledger 32 [] [] μ 0 0 (J_Ledger_behind_32 μ) := by
  unfold J_Ledger_behind_32
  exact AW.throw thr_Ledger_behind_32 (by decide) (by decide) (by decide)
def L_Ledger_behind_53 (c1 : Int) (c2 : Int) (K : ZMem → Option ZRes) : Nat → Int → ZMem → Option ZRes
  | 0, _, _ => none
  | n + 1, v3, μ => if w32 c1 ≤ w32 v3 then (K  μ) else (zCm [32, 33, 34, 35, 36, 37, 38, 39, 40, 41, 42, 43, 44, 45, 46, 47, 48, 49, 50, 11, 12] μ (F_State_follow_w2 v3 (zVw [32, 33, 34, 35, 36, 37, 38, 39, 40, 41, 42, 43, 44, 45, 46, 47, 48, 49, 50, 11, 12] μ)) (zkI (fun x4 μ3 => zLet (v3 + 1) (fun x5 => L_Ledger_behind_53 c1 c2 K n x5 μ3))) zX0)
set_option maxRecDepth 100000 in
theorem l_Ledger_behind_53 {c1 : Int} {c2 : Int} {K : ZMem → Option ZRes} (hK : ∀ (μ : ZMem), AW cf_Ledger_behind S_Ledger.length S_Ledger S_Ledger 77 [(0, zR (some 0)), (2, zI c2)] [] μ 0 0 (K μ)) : ∀ (n : Nat) (v3 : Int) (μ : ZMem), AW cf_Ledger_behind S_Ledger.length S_Ledger S_Ledger 53 [(0, zR (some 0)), (1, zI c1), (2, zI c2), (3, zI v3)] [] μ 0 0 (L_Ledger_behind_53 c1 c2 K n v3 μ) := by
  intro n
  induction n with
  | zero => intro v3 μ; exact AW.noth
  | succ n ih =>
    intro v3 μ
    rw [L_Ledger_behind_53]
    refine AW.iload_n (i := 3) (a := v3) (by decide +kernel) rfl (?_ : AW _ _ _ _ 54 _ _ _ _ _ _)
    refine AW.iload_n (i := 1) (a := c1) (by decide +kernel) rfl (?_ : AW _ _ _ _ 55 _ _ _ _ _ _)
    refine AW.icmp_ge (off := 22) (tgt := 77) (by decide +kernel) (by decide) (fun _ => ?_) (fun _ => ?_)
    · refine AW.sub (L' := [(0, zR (some 0)), (2, zI c2)]) [0, 2] rfl ?_
      exact hK  μ
    · refine AW.aload_n (i := 0) (a := 0) (by decide +kernel) rfl (?_ : AW _ _ _ _ 59 _ _ _ _ _ _)
      refine AW.getR (idx := 42) (ci := 8) (k := 5) (r := 0) (by decide +kernel) rfl rfl rfl (?_ : AW _ _ _ _ 62 _ _ _ _ _ _)
      refine AW.aload_n (i := 0) (a := 0) (by decide +kernel) rfl (?_ : AW _ _ _ _ 63 _ _ _ _ _ _)
      refine AW.getR (idx := 29) (ci := 8) (k := 3) (r := 0) (by decide +kernel) rfl rfl rfl (?_ : AW _ _ _ _ 66 _ _ _ _ _ _)
      refine AW.iload_n (i := 3) (a := v3) (by decide +kernel) rfl (?_ : AW _ _ _ _ 67 _ _ _ _ _ _)
      refine AW.callVm (g := cf_State_follow_w2) (Sg := S_State6) (pl := [32, 33, 34, 35, 36, 37, 38, 39, 40, 41, 42, 43, 44, 45, 46, 47, 48, 49, 50, 11, 12]) (av := [zR (some 19), zI v3]) (b0 := 0) (ci := 5) (idx := 232) (n := 2) (st := []) (by decide +kernel) (fun l hl r hr => c_State_follow_w2 l hl v3 _ r hr) sb_61 rfl cal_State_follow_w2 rfl (zw4 zm_X8_232 zi_yX5_follow zs_yX5_follow zn_X5) rfl rfl ⟨by decide, by decide, by decide, by decide⟩ (Nat.le_of_ble_eq_true rfl) (Or.inl rfl) (fun v μ3 => AW.rI (fun x4 => (?_ : AW _ _ _ _ 70 _ _ _ _ _ _)) v)
      refine AW.pop (by decide +kernel) rfl (?_ : AW _ _ _ _ 71 _ _ _ _ _ _)
      refine AW.iincL (i := 3) (n := 1) (a := v3) (L' := fun x5 => [(3, zI x5), (0, zR (some 0)), (1, zI c1), (2, zI c2)]) (by decide +kernel) rfl (by decide) (fun _ => rfl) (fun x5 => (?_ : AW _ _ _ _ 74 _ _ _ _ _ _))
      refine AW.goto (off := -21) (tgt := 53) (by decide +kernel) (by decide) ?_
      refine AW.sub (L' := [(0, zR (some 0)), (1, zI c1), (2, zI c2), (3, zI x5)]) [1, 2, 3, 0] rfl ?_
      exact ih x5 μ3
def F_Ledger_behind (a1 : Int) (a2 : Int) (μ : ZMem) : Option ZRes := if w32 a1 < 0 then (J_Ledger_behind_15 μ) else (if w32 a1 ≤ w32 (μ 11 1) then (if w32 a2 < 0 then (J_Ledger_behind_32 μ) else (if w32 a2 ≤ w32 4 then (zCm [32, 33, 34, 35, 36, 37, 38, 39, 40, 41, 42, 43, 44, 45, 46, 47, 48, 49, 50, 3, 4, 5, 6] μ (F_State_open_w2  (zVw [32, 33, 34, 35, 36, 37, 38, 39, 40, 41, 42, 43, 44, 45, 46, 47, 48, 49, 50, 3, 4, 5, 6] μ)) (zkV (fun μ1 => L_Ledger_behind_53 a1 a2 (fun μ6 => if w32 a2 = 0 then (zRd μ6 37 4 0 (fun x8 => some (.inr (some (zJ x8)), μ6))) else (if w32 a2 = 1 then (some (.inr (some (zJ (μ6 39 10))), μ6)) else (if w32 a2 = 2 then (zCm [39, 40, 41, 42, 43, 44, 45, 46, 47] μ6 (F_Register_allOf_2  (zVw [39, 40, 41, 42, 43, 44, 45, 46, 47] μ6)) (zkJ (fun x12 μ11 => some (.inr (some (zJ x12)), μ11))) zX0) else (if w32 a2 = 3 then (zCm [33, 34, 35, 36, 37, 38] μ6 (F_Books_clawDue  (zVw [33, 34, 35, 36, 37, 38] μ6)) (zkJ (fun x15 μ14 => some (.inr (some (zJ x15)), μ14))) zX0) else (some (.inr (some (zJ (w32 (μ6 33 6)))), μ6)))))) zN 0 μ1)) zX0) else (J_Ledger_behind_32 μ))) else (J_Ledger_behind_15 μ))
set_option maxRecDepth 100000 in
theorem w_Ledger_behind (a1 : Int) (a2 : Int) (μ : ZMem) : AW cf_Ledger_behind S_Ledger.length S_Ledger S_Ledger 0 [(0, zR (some 0)), (1, zI a1), (2, zI a2)] [] μ 0 0 (F_Ledger_behind a1 a2 μ) := by
  unfold F_Ledger_behind
  refine AW.iload_n (i := 1) (a := a1) (by decide +kernel) rfl (?_ : AW _ _ _ _ 1 _ _ _ _ _ _)
  refine AW.if_lt (off := 14) (tgt := 15) (by decide +kernel) (by decide) (fun _ => ?_) (fun _ => ?_)
  · refine AW.sub (L' := []) [] rfl ?_
    exact j_Ledger_behind_15 μ
  · refine AW.iload_n (i := 1) (a := a1) (by decide +kernel) rfl (?_ : AW _ _ _ _ 5 _ _ _ _ _ _)
    refine AW.aload_n (i := 0) (a := 0) (by decide +kernel) rfl (?_ : AW _ _ _ _ 6 _ _ _ _ _ _)
    refine AW.getR (idx := 29) (ci := 8) (k := 3) (r := 0) (by decide +kernel) rfl rfl rfl (?_ : AW _ _ _ _ 9 _ _ _ _ _ _)
    refine AW.getI (idx := 90) (ci := 2) (k := 1) (r := 11) (by decide +kernel) rfl rfl rfl (?_ : AW _ _ _ _ 12 _ _ _ _ _ _)
    refine AW.icmp_le (off := 11) (tgt := 23) (by decide +kernel) (by decide) (fun _ => ?_) (fun _ => ?_)
    · refine AW.iload_n (i := 2) (a := a2) (by decide +kernel) rfl (?_ : AW _ _ _ _ 24 _ _ _ _ _ _)
      refine AW.if_lt (off := 8) (tgt := 32) (by decide +kernel) (by decide) (fun _ => ?_) (fun _ => ?_)
      · refine AW.sub (L' := []) [] rfl ?_
        exact j_Ledger_behind_32 μ
      · refine AW.iload_n (i := 2) (a := a2) (by decide +kernel) rfl (?_ : AW _ _ _ _ 28 _ _ _ _ _ _)
        refine AW.iconst (n := 4) (by decide +kernel) (?_ : AW _ _ _ _ 29 _ _ _ _ _ _)
        refine AW.icmp_le (off := 11) (tgt := 40) (by decide +kernel) (by decide) (fun _ => ?_) (fun _ => ?_)
        · refine AW.aload_n (i := 0) (a := 0) (by decide +kernel) rfl (?_ : AW _ _ _ _ 41 _ _ _ _ _ _)
          refine AW.getR (idx := 42) (ci := 8) (k := 5) (r := 0) (by decide +kernel) rfl rfl rfl (?_ : AW _ _ _ _ 44 _ _ _ _ _ _)
          refine AW.aload_n (i := 0) (a := 0) (by decide +kernel) rfl (?_ : AW _ _ _ _ 45 _ _ _ _ _ _)
          refine AW.getR (idx := 19) (ci := 8) (k := 1) (r := 0) (by decide +kernel) rfl rfl rfl (?_ : AW _ _ _ _ 48 _ _ _ _ _ _)
          refine AW.callVm (g := cf_State_open_w2) (Sg := S_State4) (pl := [32, 33, 34, 35, 36, 37, 38, 39, 40, 41, 42, 43, 44, 45, 46, 47, 48, 49, 50, 3, 4, 5, 6]) (av := [zR (some 19)]) (b0 := 0) (ci := 5) (idx := 229) (n := 1) (st := []) (by decide +kernel) (fun l hl r hr => c_State_open_w2 l hl  _ r hr) sb_60 rfl cal_State_open_w2 rfl (zw4 zm_X8_229 zi_yX5_open zs_yX5_open zn_X5) rfl rfl ⟨by decide, by decide, by decide, by decide⟩ (Nat.le_of_ble_eq_true rfl) (Or.inl rfl) (fun v μ1 => AW.rV (?_ : AW _ _ _ _ 51 _ _ _ _ _ _) v)
          refine AW.iconst (n := 0) (by decide +kernel) (?_ : AW _ _ _ _ 52 _ _ _ _ _ _)
          refine AW.istore_n' (i := 3) (L' := [(3, zI 0), (0, zR (some 0)), (1, zI a1), (2, zI a2)]) (by decide +kernel) (by decide) rfl (?_ : AW _ _ _ _ 53 _ _ _ _ _ _)
          refine AW.sub (L' := [(0, zR (some 0)), (1, zI a1), (2, zI a2), (3, zI 0)]) [1, 2, 3, 0] rfl ?_
          refine l_Ledger_behind_53 (fun μ6 => ?_) zN _ _
          refine AW.iload_n (i := 2) (a := a2) (by decide +kernel) rfl (?_ : AW _ _ _ _ 78 _ _ _ _ _ _)
          refine AW.tswC (dflt := 86) (lo := 0) (hi := 3) (offs := #[30, 43, 54, 75]) (len := 30) (k := 0) (off := 30) (tgt := 108) (by decide +kernel) (by decide) (by decide) rfl (by decide) (fun _ => ?_) (fun h7 => ?_)
          · refine AW.aload_n (i := 0) (a := 0) (by decide +kernel) rfl (?_ : AW _ _ _ _ 109 _ _ _ _ _ _)
            refine AW.getR (idx := 42) (ci := 8) (k := 5) (r := 0) (by decide +kernel) rfl rfl rfl (?_ : AW _ _ _ _ 112 _ _ _ _ _ _)
            refine AW.getR (idx := 152) (ci := 5) (k := 0) (r := 32) (by decide +kernel) rfl rfl rfl (?_ : AW _ _ _ _ 115 _ _ _ _ _ _)
            refine AW.getR (idx := 161) (ci := 0) (k := 3) (r := 33) (by decide +kernel) rfl rfl rfl (?_ : AW _ _ _ _ 118 _ _ _ _ _ _)
            refine AW.iconst (n := 0) (by decide +kernel) (?_ : AW _ _ _ _ 119 _ _ _ _ _ _)
            refine AW.lald (r := 37) (by decide +kernel) rfl (fun x8 => (?_ : AW _ _ _ _ 120 _ _ _ _ _ _))
            exact AW.retl (by decide +kernel) rfl (by decide) (by decide)
          refine AW.tswC (dflt := 86) (lo := 0) (hi := 3) (offs := #[30, 43, 54, 75]) (len := 30) (k := 1) (off := 43) (tgt := 121) (by decide +kernel) (by decide) (by decide) rfl (by decide) (fun _ => ?_) (fun h9 => ?_)
          · refine AW.aload_n (i := 0) (a := 0) (by decide +kernel) rfl (?_ : AW _ _ _ _ 122 _ _ _ _ _ _)
            refine AW.getR (idx := 42) (ci := 8) (k := 5) (r := 0) (by decide +kernel) rfl rfl rfl (?_ : AW _ _ _ _ 125 _ _ _ _ _ _)
            refine AW.getR (idx := 120) (ci := 5) (k := 1) (r := 32) (by decide +kernel) rfl rfl rfl (?_ : AW _ _ _ _ 128 _ _ _ _ _ _)
            refine AW.getJ (idx := 203) (ci := 4) (k := 10) (r := 39) (by decide +kernel) rfl rfl rfl (?_ : AW _ _ _ _ 131 _ _ _ _ _ _)
            exact AW.retl (by decide +kernel) rfl (by decide) (by decide)
          refine AW.tswC (dflt := 86) (lo := 0) (hi := 3) (offs := #[30, 43, 54, 75]) (len := 30) (k := 2) (off := 54) (tgt := 132) (by decide +kernel) (by decide) (by decide) rfl (by decide) (fun _ => ?_) (fun h10 => ?_)
          · refine AW.aload_n (i := 0) (a := 0) (by decide +kernel) rfl (?_ : AW _ _ _ _ 133 _ _ _ _ _ _)
            refine AW.getR (idx := 42) (ci := 8) (k := 5) (r := 0) (by decide +kernel) rfl rfl rfl (?_ : AW _ _ _ _ 136 _ _ _ _ _ _)
            refine AW.getR (idx := 120) (ci := 5) (k := 1) (r := 32) (by decide +kernel) rfl rfl rfl (?_ : AW _ _ _ _ 139 _ _ _ _ _ _)
            refine AW.aload_n (i := 0) (a := 0) (by decide +kernel) rfl (?_ : AW _ _ _ _ 140 _ _ _ _ _ _)
            refine AW.getR (idx := 42) (ci := 8) (k := 5) (r := 0) (by decide +kernel) rfl rfl rfl (?_ : AW _ _ _ _ 143 _ _ _ _ _ _)
            refine AW.getR (idx := 120) (ci := 5) (k := 1) (r := 32) (by decide +kernel) rfl rfl rfl (?_ : AW _ _ _ _ 146 _ _ _ _ _ _)
            refine AW.getR (idx := 129) (ci := 4) (k := 1) (r := 39) (by decide +kernel) rfl rfl rfl (?_ : AW _ _ _ _ 149 _ _ _ _ _ _)
            refine AW.callVm (g := cf_Register_allOf_2) (Sg := S_Register2) (pl := [39, 40, 41, 42, 43, 44, 45, 46, 47]) (av := [zR (some 2)]) (b0 := 0) (ci := 4) (idx := 240) (n := 1) (st := []) (by decide +kernel) (fun l hl r hr => c_Register_allOf_2 l hl  _ r hr) sb_62 rfl cal_Register_allOf_2 rfl (zw4 zm_X8_240 zi_yX4_allOf zs_yX4_allOf zn_X4) rfl rfl ⟨by decide, by decide, by decide, by decide⟩ (Nat.le_of_ble_eq_true rfl) (Or.inl rfl) (fun v μ11 => AW.rJ (fun x12 => (?_ : AW _ _ _ _ 152 _ _ _ _ _ _)) v)
            exact AW.retl (by decide +kernel) rfl (by decide) (by decide)
          refine AW.tswC (dflt := 86) (lo := 0) (hi := 3) (offs := #[30, 43, 54, 75]) (len := 30) (k := 3) (off := 75) (tgt := 153) (by decide +kernel) (by decide) (by decide) rfl (by decide) (fun _ => ?_) (fun h13 => ?_)
          · refine AW.aload_n (i := 0) (a := 0) (by decide +kernel) rfl (?_ : AW _ _ _ _ 154 _ _ _ _ _ _)
            refine AW.getR (idx := 42) (ci := 8) (k := 5) (r := 0) (by decide +kernel) rfl rfl rfl (?_ : AW _ _ _ _ 157 _ _ _ _ _ _)
            refine AW.getR (idx := 152) (ci := 5) (k := 0) (r := 32) (by decide +kernel) rfl rfl rfl (?_ : AW _ _ _ _ 160 _ _ _ _ _ _)
            refine AW.callVm (g := cf_Books_clawDue) (Sg := S_Books3) (pl := [33, 34, 35, 36, 37, 38]) (av := []) (b0 := 0) (ci := 0) (idx := 193) (n := 0) (st := []) (by decide +kernel) (fun l hl r hr => c_Books_clawDue l hl  _ r hr) sb_59 rfl cal_Books_clawDue rfl (zw4 zm_X8_193 zi_yX0_clawDue zs_yX0_clawDue zn_X0) rfl rfl ⟨by decide, by decide, by decide, by decide⟩ (Nat.le_of_ble_eq_true rfl) (Or.inl rfl) (fun v μ14 => AW.rJ (fun x15 => (?_ : AW _ _ _ _ 163 _ _ _ _ _ _)) v)
            exact AW.retl (by decide +kernel) rfl (by decide) (by decide)
          refine AW.tswD (dflt := 86) (lo := 0) (hi := 3) (offs := #[30, 43, 54, 75]) (len := 30) (tgt := 164) (by decide +kernel) (by omega) (by decide) ?_
          refine AW.aload_n (i := 0) (a := 0) (by decide +kernel) rfl (?_ : AW _ _ _ _ 165 _ _ _ _ _ _)
          refine AW.getR (idx := 42) (ci := 8) (k := 5) (r := 0) (by decide +kernel) rfl rfl rfl (?_ : AW _ _ _ _ 168 _ _ _ _ _ _)
          refine AW.getR (idx := 152) (ci := 5) (k := 0) (r := 32) (by decide +kernel) rfl rfl rfl (?_ : AW _ _ _ _ 171 _ _ _ _ _ _)
          refine AW.getI (idx := 244) (ci := 0) (k := 6) (r := 33) (by decide +kernel) rfl rfl rfl (?_ : AW _ _ _ _ 174 _ _ _ _ _ _)
          refine AW.i2l (by decide +kernel) (?_ : AW _ _ _ _ 175 _ _ _ _ _ _)
          exact AW.retl (by decide +kernel) rfl (by decide) (by decide)
        · refine AW.sub (L' := []) [] rfl ?_
          exact j_Ledger_behind_32 μ
    · refine AW.sub (L' := []) [] rfl ?_
      exact j_Ledger_behind_15 μ
theorem c_Ledger_behind (l : Launch) (hl : l.stackTraces = false) (a1 : Int) (a2 : Int) (μ : ZMem) (r : ZRes) (h : F_Ledger_behind a1 a2 μ = some r) : ZC l cf_Ledger_behind S_Ledger S_Ledger [zR (some 0), zI a1, zI a2] μ r := ZC.of hl (by decide +kernel) rfl rfl zft_X8_ok (Nat.le_of_ble_eq_true rfl) h (w_Ledger_behind a1 a2 μ)
/-! WeirLedger.clean()I -/
def cf_Ledger_clean : ZCf := (yX8_clean, cX8_clean, 5, some .int, [], 7, 0, 0, zft_X8, none)
theorem cal_Ledger_clean : zCallee cf_Ledger_clean 0 := ⟨rfl, zc_yX8_clean, by decide, by decide, by decide +kernel⟩
def J_Ledger_clean_37 (R : Int → ZMem → Option ZRes) (K : ZMem → Option ZRes) (u1 : Int) (y0 : Int) (μ : ZMem) : Option ZRes := if w64 y0 = w64 0 then (some (.inr (some (zI u1)), μ)) else (zLet (u1 + (-1)) (fun x6 => R x6 μ))
set_option maxRecDepth 100000 in
theorem j_Ledger_clean_37 {R : Int → ZMem → Option ZRes} {K : ZMem → Option ZRes} (hR : ∀ (v1 : Int) (μ : ZMem), AW cf_Ledger_clean S_Ledger.length S_Ledger S_Ledger 6 [(0, zR (some 0)), (1, zI v1)] [] μ 0 0 (R v1 μ)) (hK : ∀ (μ : ZMem), AW cf_Ledger_clean S_Ledger.length S_Ledger S_Ledger 52 [] [] μ 0 0 (K μ)) (u1 : Int) (y0 : Int) (μ : ZMem) : AW cf_Ledger_clean S_Ledger.length S_Ledger S_Ledger 37 [(0, zR (some 0)), (1, zI u1)] [zJ y0] μ 0 0 (J_Ledger_clean_37 R K u1 y0 μ) := by
  unfold J_Ledger_clean_37
  refine AW.lstore_n' (i := 3) (L' := [(3, zJ y0), (0, zR (some 0)), (1, zI u1)]) (by decide +kernel) (by decide) rfl (?_ : AW _ _ _ _ 38 _ _ _ _ _ _)
  refine AW.lload_n (i := 3) (a := y0) (by decide +kernel) rfl (?_ : AW _ _ _ _ 39 _ _ _ _ _ _)
  refine AW.lconst0 (by decide +kernel) (?_ : AW _ _ _ _ 40 _ _ _ _ _ _)
  refine AW.lcmp_ne (off := 5) (tgt := 46) (by decide +kernel) (by decide +kernel) (by decide) (fun _ => ?_) (fun _ => ?_)
  · refine AW.iload_n (i := 1) (a := u1) (by decide +kernel) rfl (?_ : AW _ _ _ _ 45 _ _ _ _ _ _)
    exact AW.reti (by decide +kernel) rfl (by decide) (by decide)
  · refine AW.iincL (i := 1) (n := -1) (a := u1) (L' := fun x6 => [(1, zI x6), (3, zJ y0), (0, zR (some 0))]) (by decide +kernel) rfl (by decide) (fun _ => rfl) (fun x6 => (?_ : AW _ _ _ _ 49 _ _ _ _ _ _))
    refine AW.goto (off := -43) (tgt := 6) (by decide +kernel) (by decide) ?_
    refine AW.sub (L' := [(0, zR (some 0)), (1, zI x6)]) [2, 0] rfl ?_
    exact hR x6 μ
def L_Ledger_clean_6 (K : ZMem → Option ZRes) : Nat → Int → ZMem → Option ZRes
  | 0, _, _ => none
  | n + 1, v1, μ => if w32 v1 < 0 then (K  μ) else (zC (F_Ledger_booksUnder 2 v1 μ) (zkRc 33 (fun μ2 => if w32 (μ2 33 7) = 0 then (zCm [33, 34, 35, 36, 37, 38] μ2 (F_Books_clawDue  (zVw [33, 34, 35, 36, 37, 38] μ2)) (zkJ (fun x5 μ4 => J_Ledger_clean_37 (fun v1 μ => L_Ledger_clean_6 K n v1 μ) K v1 x5 μ4)) zX0) else (zRd μ2 37 4 3 (fun x7 => J_Ledger_clean_37 (fun v1 μ => L_Ledger_clean_6 K n v1 μ) K v1 x7 μ2)))) zX0)
set_option maxRecDepth 100000 in
theorem l_Ledger_clean_6 {K : ZMem → Option ZRes} (hK : ∀ (μ : ZMem), AW cf_Ledger_clean S_Ledger.length S_Ledger S_Ledger 52 [] [] μ 0 0 (K μ)) : ∀ (n : Nat) (v1 : Int) (μ : ZMem), AW cf_Ledger_clean S_Ledger.length S_Ledger S_Ledger 6 [(0, zR (some 0)), (1, zI v1)] [] μ 0 0 (L_Ledger_clean_6 K n v1 μ) := by
  intro n
  induction n with
  | zero => intro v1 μ; exact AW.noth
  | succ n ih =>
    intro v1 μ
    rw [L_Ledger_clean_6]
    refine AW.iload_n (i := 1) (a := v1) (by decide +kernel) rfl (?_ : AW _ _ _ _ 7 _ _ _ _ _ _)
    refine AW.if_lt (off := 45) (tgt := 52) (by decide +kernel) (by decide) (fun _ => ?_) (fun _ => ?_)
    · refine AW.sub (L' := []) [] rfl ?_
      exact hK  μ
    · refine AW.aload_n (i := 0) (a := 0) (by decide +kernel) rfl (?_ : AW _ _ _ _ 11 _ _ _ _ _ _)
      refine AW.iconst (n := 2) (by decide +kernel) (?_ : AW _ _ _ _ 12 _ _ _ _ _ _)
      refine AW.iload_n (i := 1) (a := v1) (by decide +kernel) rfl (?_ : AW _ _ _ _ 13 _ _ _ _ _ _)
      refine AW.callVw (g := cf_Ledger_booksUnder) (av := [zI 2, zI v1]) (b0 := 0) (ci := 8) (idx := 222) (n := 2) (st := []) (by decide +kernel) (fun l hl r hr => c_Ledger_booksUnder l hl 2 v1 _ r hr) S_Ledger_wf rfl cal_Ledger_booksUnder rfl (zw4 zm_X8_222 zi_yX8_booksUnder zs_yX8_booksUnder zn_X8) rfl rfl ⟨by decide, by decide, by decide, by decide⟩ (Nat.le_of_ble_eq_true rfl) (Or.inl rfl) (fun v μ2 => AW.kRc (?_ : AW _ _ _ _ 16 _ _ _ _ _ _) v)
      refine AW.astore_n' (i := 2) (L' := [(2, zR (some 33)), (0, zR (some 0)), (1, zI v1)]) (by decide +kernel) (by decide) rfl (?_ : AW _ _ _ _ 17 _ _ _ _ _ _)
      refine AW.aload_n (i := 2) (a := 33) (by decide +kernel) rfl (?_ : AW _ _ _ _ 18 _ _ _ _ _ _)
      refine AW.getZ (idx := 247) (ci := 0) (k := 7) (r := 33) (by decide +kernel) rfl rfl rfl (?_ : AW _ _ _ _ 21 _ _ _ _ _ _)
      refine AW.if_eq (off := 12) (tgt := 33) (by decide +kernel) (by decide) (fun _ => ?_) (fun _ => ?_)
      · refine AW.aload_n (i := 2) (a := 33) (by decide +kernel) rfl (?_ : AW _ _ _ _ 34 _ _ _ _ _ _)
        refine AW.callVm (g := cf_Books_clawDue) (Sg := S_Books3) (pl := [33, 34, 35, 36, 37, 38]) (av := []) (b0 := 0) (ci := 0) (idx := 193) (n := 0) (st := []) (by decide +kernel) (fun l hl r hr => c_Books_clawDue l hl  _ r hr) sb_59 rfl cal_Books_clawDue rfl (zw4 zm_X8_193 zi_yX0_clawDue zs_yX0_clawDue zn_X0) rfl rfl ⟨by decide, by decide, by decide, by decide⟩ (Nat.le_of_ble_eq_true rfl) (Or.inl rfl) (fun v μ4 => AW.rJ (fun x5 => (?_ : AW _ _ _ _ 37 _ _ _ _ _ _)) v)
        refine AW.sub (L' := [(0, zR (some 0)), (1, zI v1)]) [1, 2] rfl ?_
        exact j_Ledger_clean_37 ih hK v1 x5 μ4
      · refine AW.aload_n (i := 2) (a := 33) (by decide +kernel) rfl (?_ : AW _ _ _ _ 25 _ _ _ _ _ _)
        refine AW.getR (idx := 161) (ci := 0) (k := 3) (r := 33) (by decide +kernel) rfl rfl rfl (?_ : AW _ _ _ _ 28 _ _ _ _ _ _)
        refine AW.iconst (n := 3) (by decide +kernel) (?_ : AW _ _ _ _ 29 _ _ _ _ _ _)
        refine AW.lald (r := 37) (by decide +kernel) rfl (fun x7 => (?_ : AW _ _ _ _ 30 _ _ _ _ _ _))
        refine AW.goto (off := 7) (tgt := 37) (by decide +kernel) (by decide) ?_
        refine AW.sub (L' := [(0, zR (some 0)), (1, zI v1)]) [1, 2] rfl ?_
        exact j_Ledger_clean_37 ih hK v1 x7 μ2
def F_Ledger_clean (μ : ZMem) : Option ZRes := zTop 2 (fun x1 => L_Ledger_clean_6 (fun μ8 => some (.inr (some (zI (-1))), μ8)) zN x1 μ)
set_option maxRecDepth 100000 in
theorem w_Ledger_clean (μ : ZMem) : AW cf_Ledger_clean S_Ledger.length S_Ledger S_Ledger 0 [(0, zR (some 0))] [] μ 0 0 (F_Ledger_clean μ) := by
  unfold F_Ledger_clean
  refine AW.gtops (idx := 219) (by decide +kernel) zlTT (?_ : AW _ _ _ _ 3 _ _ _ _ _ _)
  refine AW.iconst (n := 2) (by decide +kernel) (?_ : AW _ _ _ _ 4 _ _ _ _ _ _)
  refine AW.tops (by decide +kernel) (fun x1 => (?_ : AW _ _ _ _ 5 _ _ _ _ _ _))
  refine AW.istore_n' (i := 1) (L' := [(1, zI x1), (0, zR (some 0))]) (by decide +kernel) (by decide) rfl (?_ : AW _ _ _ _ 6 _ _ _ _ _ _)
  refine AW.sub (L' := [(0, zR (some 0)), (1, zI x1)]) [1, 0] rfl ?_
  refine l_Ledger_clean_6 (fun μ8 => ?_) zN _ _
  refine AW.iconst (n := -1) (by decide +kernel) (?_ : AW _ _ _ _ 53 _ _ _ _ _ _)
  exact AW.reti (by decide +kernel) rfl (by decide) (by decide)
theorem c_Ledger_clean (l : Launch) (hl : l.stackTraces = false) (μ : ZMem) (r : ZRes) (h : F_Ledger_clean μ = some r) : ZC l cf_Ledger_clean S_Ledger S_Ledger [zR (some 0)] μ r := ZC.of hl (by decide +kernel) rfl rfl zft_X8_ok (Nat.le_of_ble_eq_true rfl) h (w_Ledger_clean μ)
/-! WeirLedger.idle()I -/
def cf_Ledger_idle : ZCf := (yX8_idle, cX8_idle, 5, some .int, [], 8, 0, 0, zft_X8, none)
theorem cal_Ledger_idle : zCallee cf_Ledger_idle 0 := ⟨rfl, zc_yX8_idle, by decide, by decide, by decide +kernel⟩
def J_Ledger_idle_42 (R : Int → Int → ZMem → Option ZRes) (K : Int → ZMem → Option ZRes) (c1 : Int) (u3 : Int) (u4 : Int) (μ : ZMem) : Option ZRes := zLet (u4 + 1) (fun x6 => R u3 x6 μ)
set_option maxRecDepth 100000 in
theorem j_Ledger_idle_42 {R : Int → Int → ZMem → Option ZRes} {K : Int → ZMem → Option ZRes} (c1 : Int) (hR : ∀ (v3 : Int) (v4 : Int) (μ : ZMem), AW cf_Ledger_idle S_Ledger.length S_Ledger S_Ledger 16 [(0, zR (some 0)), (1, zJ c1), (3, zI v3), (4, zI v4)] [] μ 0 0 (R v3 v4 μ)) (hK : ∀ (k3 : Int) (μ : ZMem), AW cf_Ledger_idle S_Ledger.length S_Ledger S_Ledger 48 [(3, zI k3)] [] μ 0 0 (K k3 μ)) (u3 : Int) (u4 : Int) (μ : ZMem) : AW cf_Ledger_idle S_Ledger.length S_Ledger S_Ledger 42 [(0, zR (some 0)), (1, zJ c1), (3, zI u3), (4, zI u4)] [] μ 0 0 (J_Ledger_idle_42 R K c1 u3 u4 μ) := by
  unfold J_Ledger_idle_42
  refine AW.iincL (i := 4) (n := 1) (a := u4) (L' := fun x6 => [(4, zI x6), (0, zR (some 0)), (1, zJ c1), (3, zI u3)]) (by decide +kernel) rfl (by decide) (fun _ => rfl) (fun x6 => (?_ : AW _ _ _ _ 45 _ _ _ _ _ _))
  refine AW.goto (off := -29) (tgt := 16) (by decide +kernel) (by decide) ?_
  refine AW.sub (L' := [(0, zR (some 0)), (1, zJ c1), (3, zI u3), (4, zI x6)]) [1, 2, 3, 0] rfl ?_
  exact hR u3 x6 μ
def L_Ledger_idle_16 (c1 : Int) (K : Int → ZMem → Option ZRes) : Nat → Int → Int → ZMem → Option ZRes
  | 0, _, _, _ => none
  | n + 1, v3, v4, μ => if w32 (μ 11 1) ≤ w32 v4 then (K v3 μ) else (zC (F_Ledger_netTakenWithout v4 μ) (zkJ (fun x4 μ3 => if w64 x4 = w64 c1 then (zLet (v3 + 1) (fun x5 => J_Ledger_idle_42 (fun v3 v4 μ => L_Ledger_idle_16 c1 K n v3 v4 μ) K c1 x5 v4 μ3)) else (J_Ledger_idle_42 (fun v3 v4 μ => L_Ledger_idle_16 c1 K n v3 v4 μ) K c1 v3 v4 μ3))) zX0)
set_option maxRecDepth 100000 in
theorem l_Ledger_idle_16 {c1 : Int} {K : Int → ZMem → Option ZRes} (hK : ∀ (k3 : Int) (μ : ZMem), AW cf_Ledger_idle S_Ledger.length S_Ledger S_Ledger 48 [(3, zI k3)] [] μ 0 0 (K k3 μ)) : ∀ (n : Nat) (v3 : Int) (v4 : Int) (μ : ZMem), AW cf_Ledger_idle S_Ledger.length S_Ledger S_Ledger 16 [(0, zR (some 0)), (1, zJ c1), (3, zI v3), (4, zI v4)] [] μ 0 0 (L_Ledger_idle_16 c1 K n v3 v4 μ) := by
  intro n
  induction n with
  | zero => intro v3 v4 μ; exact AW.noth
  | succ n ih =>
    intro v3 v4 μ
    rw [L_Ledger_idle_16]
    refine AW.iload (i := 4) (a := v4) (by decide +kernel) rfl (?_ : AW _ _ _ _ 18 _ _ _ _ _ _)
    refine AW.aload_n (i := 0) (a := 0) (by decide +kernel) rfl (?_ : AW _ _ _ _ 19 _ _ _ _ _ _)
    refine AW.getR (idx := 29) (ci := 8) (k := 3) (r := 0) (by decide +kernel) rfl rfl rfl (?_ : AW _ _ _ _ 22 _ _ _ _ _ _)
    refine AW.getI (idx := 90) (ci := 2) (k := 1) (r := 11) (by decide +kernel) rfl rfl rfl (?_ : AW _ _ _ _ 25 _ _ _ _ _ _)
    refine AW.icmp_ge (off := 23) (tgt := 48) (by decide +kernel) (by decide) (fun _ => ?_) (fun _ => ?_)
    · refine AW.sub (L' := [(3, zI v3)]) [2] rfl ?_
      exact hK v3 μ
    · refine AW.aload_n (i := 0) (a := 0) (by decide +kernel) rfl (?_ : AW _ _ _ _ 29 _ _ _ _ _ _)
      refine AW.iload (i := 4) (a := v4) (by decide +kernel) rfl (?_ : AW _ _ _ _ 31 _ _ _ _ _ _)
      refine AW.callVw (g := cf_Ledger_netTakenWithout) (av := [zI v4]) (b0 := 0) (ci := 8) (idx := 236) (n := 1) (st := []) (by decide +kernel) (fun l hl r hr => c_Ledger_netTakenWithout l hl v4 _ r hr) S_Ledger_wf rfl cal_Ledger_netTakenWithout rfl (zw4 zm_X8_236 zi_yX8_netTakenWithout zs_yX8_netTakenWithout zn_X8) rfl rfl ⟨by decide, by decide, by decide, by decide⟩ (Nat.le_of_ble_eq_true rfl) (Or.inl rfl) (fun v μ3 => AW.kJ (fun x4 => (?_ : AW _ _ _ _ 34 _ _ _ _ _ _)) v)
      refine AW.lload_n (i := 1) (a := c1) (by decide +kernel) rfl (?_ : AW _ _ _ _ 35 _ _ _ _ _ _)
      refine AW.lcmp_ne (off := 6) (tgt := 42) (by decide +kernel) (by decide +kernel) (by decide) (fun _ => ?_) (fun _ => ?_)
      · refine AW.iincL (i := 3) (n := 1) (a := v3) (L' := fun x5 => [(3, zI x5), (0, zR (some 0)), (1, zJ c1), (4, zI v4)]) (by decide +kernel) rfl (by decide) (fun _ => rfl) (fun x5 => (?_ : AW _ _ _ _ 42 _ _ _ _ _ _))
        refine AW.sub (L' := [(0, zR (some 0)), (1, zJ c1), (3, zI x5), (4, zI v4)]) [1, 2, 0, 3] rfl ?_
        exact j_Ledger_idle_42 c1 ih hK x5 v4 μ3
      · exact j_Ledger_idle_42 c1 ih hK v3 v4 μ3
def F_Ledger_idle (μ : ZMem) : Option ZRes := zCm [14, 15, 16, 17, 18, 19] μ (F_Books_netTaken  (zVw [14, 15, 16, 17, 18, 19] μ)) (zkJ (fun x2 μ1 => L_Ledger_idle_16 x2 (fun k8 μ7 => some (.inr (some (zI k8)), μ7)) zN 0 0 μ1)) zX0
set_option maxRecDepth 100000 in
theorem w_Ledger_idle (μ : ZMem) : AW cf_Ledger_idle S_Ledger.length S_Ledger S_Ledger 0 [(0, zR (some 0))] [] μ 0 0 (F_Ledger_idle μ) := by
  unfold F_Ledger_idle
  refine AW.aload_n (i := 0) (a := 0) (by decide +kernel) rfl (?_ : AW _ _ _ _ 1 _ _ _ _ _ _)
  refine AW.getR (idx := 38) (ci := 8) (k := 4) (r := 0) (by decide +kernel) rfl rfl rfl (?_ : AW _ _ _ _ 4 _ _ _ _ _ _)
  refine AW.getR (idx := 152) (ci := 5) (k := 0) (r := 13) (by decide +kernel) rfl rfl rfl (?_ : AW _ _ _ _ 7 _ _ _ _ _ _)
  refine AW.callVm (g := cf_Books_netTaken) (Sg := S_Books3) (pl := [14, 15, 16, 17, 18, 19]) (av := []) (b0 := 0) (ci := 0) (idx := 226) (n := 0) (st := []) (by decide +kernel) (fun l hl r hr => c_Books_netTaken l hl  _ r hr) sb_52 rfl cal_Books_netTaken rfl (zw4 zm_X8_226 zi_yX0_netTaken zs_yX0_netTaken zn_X0) rfl rfl ⟨by decide, by decide, by decide, by decide⟩ (Nat.le_of_ble_eq_true rfl) (Or.inl rfl) (fun v μ1 => AW.rJ (fun x2 => (?_ : AW _ _ _ _ 10 _ _ _ _ _ _)) v)
  refine AW.lstore_n' (i := 1) (L' := [(1, zJ x2), (0, zR (some 0))]) (by decide +kernel) (by decide) rfl (?_ : AW _ _ _ _ 11 _ _ _ _ _ _)
  refine AW.iconst (n := 0) (by decide +kernel) (?_ : AW _ _ _ _ 12 _ _ _ _ _ _)
  refine AW.istore_n' (i := 3) (L' := [(3, zI 0), (1, zJ x2), (0, zR (some 0))]) (by decide +kernel) (by decide) rfl (?_ : AW _ _ _ _ 13 _ _ _ _ _ _)
  refine AW.iconst (n := 0) (by decide +kernel) (?_ : AW _ _ _ _ 14 _ _ _ _ _ _)
  refine AW.istore' (i := 4) (L' := [(4, zI 0), (3, zI 0), (1, zJ x2), (0, zR (some 0))]) (by decide +kernel) (by decide) rfl (?_ : AW _ _ _ _ 16 _ _ _ _ _ _)
  refine AW.sub (L' := [(0, zR (some 0)), (1, zJ x2), (3, zI 0), (4, zI 0)]) [3, 2, 1, 0] rfl ?_
  refine l_Ledger_idle_16 (fun k8 μ7 => ?_) zN _ _ _
  refine AW.iload_n (i := 3) (a := k8) (by decide +kernel) rfl (?_ : AW _ _ _ _ 49 _ _ _ _ _ _)
  exact AW.reti (by decide +kernel) rfl (by decide) (by decide)
theorem c_Ledger_idle (l : Launch) (hl : l.stackTraces = false) (μ : ZMem) (r : ZRes) (h : F_Ledger_idle μ = some r) : ZC l cf_Ledger_idle S_Ledger S_Ledger [zR (some 0)] μ r := ZC.of hl (by decide +kernel) rfl rfl zft_X8_ok (Nat.le_of_ble_eq_true rfl) h (w_Ledger_idle μ)
/-! WeirLedger.blame()I -/
def cf_Ledger_blame : ZCf := (yX8_blame, cX8_blame, 7, some .int, [], 8, 0, 0, zft_X8, none)
theorem cal_Ledger_blame : zCallee cf_Ledger_blame 0 := ⟨rfl, zc_yX8_blame, by decide, by decide, by decide +kernel⟩
def J_Ledger_blame_45 (R : Int → Int → Int → ZMem → Option ZRes) (K : Int → ZMem → Option ZRes) (u1 : Int) (u2 : Int) (u4 : Int) (μ : ZMem) : Option ZRes := zLet (u4 + 1) (fun x3 => R u1 u2 x3 μ)
set_option maxRecDepth 100000 in
theorem j_Ledger_blame_45 {R : Int → Int → Int → ZMem → Option ZRes} {K : Int → ZMem → Option ZRes} (hR : ∀ (v1 : Int) (v2 : Int) (v4 : Int) (μ : ZMem), AW cf_Ledger_blame S_Ledger.length S_Ledger S_Ledger 7 [(0, zR (some 0)), (1, zI v1), (2, zJ v2), (4, zI v4)] [] μ 0 0 (R v1 v2 v4 μ)) (hK : ∀ (k1 : Int) (μ : ZMem), AW cf_Ledger_blame S_Ledger.length S_Ledger S_Ledger 51 [(1, zI k1)] [] μ 0 0 (K k1 μ)) (u1 : Int) (u2 : Int) (u4 : Int) (μ : ZMem) : AW cf_Ledger_blame S_Ledger.length S_Ledger S_Ledger 45 [(0, zR (some 0)), (1, zI u1), (2, zJ u2), (4, zI u4)] [] μ 0 0 (J_Ledger_blame_45 R K u1 u2 u4 μ) := by
  unfold J_Ledger_blame_45
  refine AW.iincL (i := 4) (n := 1) (a := u4) (L' := fun x3 => [(4, zI x3), (0, zR (some 0)), (1, zI u1), (2, zJ u2)]) (by decide +kernel) rfl (by decide) (fun _ => rfl) (fun x3 => (?_ : AW _ _ _ _ 48 _ _ _ _ _ _))
  refine AW.goto (off := -41) (tgt := 7) (by decide +kernel) (by decide) ?_
  refine AW.sub (L' := [(0, zR (some 0)), (1, zI u1), (2, zJ u2), (4, zI x3)]) [1, 2, 3, 0] rfl ?_
  exact hR u1 u2 x3 μ
def J_Ledger_blame_39 (R : Int → Int → Int → ZMem → Option ZRes) (K : Int → ZMem → Option ZRes) (u4 : Int) (u5 : Int) (μ : ZMem) : Option ZRes := J_Ledger_blame_45 R K u4 u5 u4 μ
set_option maxRecDepth 100000 in
theorem j_Ledger_blame_39 {R : Int → Int → Int → ZMem → Option ZRes} {K : Int → ZMem → Option ZRes} (hR : ∀ (v1 : Int) (v2 : Int) (v4 : Int) (μ : ZMem), AW cf_Ledger_blame S_Ledger.length S_Ledger S_Ledger 7 [(0, zR (some 0)), (1, zI v1), (2, zJ v2), (4, zI v4)] [] μ 0 0 (R v1 v2 v4 μ)) (hK : ∀ (k1 : Int) (μ : ZMem), AW cf_Ledger_blame S_Ledger.length S_Ledger S_Ledger 51 [(1, zI k1)] [] μ 0 0 (K k1 μ)) (u4 : Int) (u5 : Int) (μ : ZMem) : AW cf_Ledger_blame S_Ledger.length S_Ledger S_Ledger 39 [(0, zR (some 0)), (4, zI u4), (5, zJ u5)] [] μ 0 0 (J_Ledger_blame_39 R K u4 u5 μ) := by
  unfold J_Ledger_blame_39
  refine AW.iload (i := 4) (a := u4) (by decide +kernel) rfl (?_ : AW _ _ _ _ 41 _ _ _ _ _ _)
  refine AW.istore_n' (i := 1) (L' := [(1, zI u4), (0, zR (some 0)), (4, zI u4), (5, zJ u5)]) (by decide +kernel) (by decide) rfl (?_ : AW _ _ _ _ 42 _ _ _ _ _ _)
  refine AW.lload (i := 5) (a := u5) (by decide +kernel) rfl (?_ : AW _ _ _ _ 44 _ _ _ _ _ _)
  refine AW.lstore_n' (i := 2) (L' := [(2, zJ u5), (1, zI u4), (0, zR (some 0)), (4, zI u4), (5, zJ u5)]) (by decide +kernel) (by decide) rfl (?_ : AW _ _ _ _ 45 _ _ _ _ _ _)
  refine AW.sub (L' := [(0, zR (some 0)), (1, zI u4), (2, zJ u5), (4, zI u4)]) [2, 1, 0, 3] rfl ?_
  exact j_Ledger_blame_45 hR hK u4 u5 u4 μ
def L_Ledger_blame_7 (K : Int → ZMem → Option ZRes) : Nat → Int → Int → Int → ZMem → Option ZRes
  | 0, _, _, _, _ => none
  | n + 1, v1, v2, v4, μ => if w32 (μ 11 1) ≤ w32 v4 then (K v1 μ) else (zC (F_Ledger_netTakenWithout v4 μ) (zkJ (fun x2 μ1 => if w32 v1 = w32 (-1) then (J_Ledger_blame_39 (fun v1 v2 v4 μ => L_Ledger_blame_7 K n v1 v2 v4 μ) K v4 x2 μ1) else (if w64 x2 ≤ w64 v2 then (J_Ledger_blame_45 (fun v1 v2 v4 μ => L_Ledger_blame_7 K n v1 v2 v4 μ) K v1 v2 v4 μ1) else (J_Ledger_blame_39 (fun v1 v2 v4 μ => L_Ledger_blame_7 K n v1 v2 v4 μ) K v4 x2 μ1)))) zX0)
set_option maxRecDepth 100000 in
theorem l_Ledger_blame_7 {K : Int → ZMem → Option ZRes} (hK : ∀ (k1 : Int) (μ : ZMem), AW cf_Ledger_blame S_Ledger.length S_Ledger S_Ledger 51 [(1, zI k1)] [] μ 0 0 (K k1 μ)) : ∀ (n : Nat) (v1 : Int) (v2 : Int) (v4 : Int) (μ : ZMem), AW cf_Ledger_blame S_Ledger.length S_Ledger S_Ledger 7 [(0, zR (some 0)), (1, zI v1), (2, zJ v2), (4, zI v4)] [] μ 0 0 (L_Ledger_blame_7 K n v1 v2 v4 μ) := by
  intro n
  induction n with
  | zero => intro v1 v2 v4 μ; exact AW.noth
  | succ n ih =>
    intro v1 v2 v4 μ
    rw [L_Ledger_blame_7]
    refine AW.iload (i := 4) (a := v4) (by decide +kernel) rfl (?_ : AW _ _ _ _ 9 _ _ _ _ _ _)
    refine AW.aload_n (i := 0) (a := 0) (by decide +kernel) rfl (?_ : AW _ _ _ _ 10 _ _ _ _ _ _)
    refine AW.getR (idx := 29) (ci := 8) (k := 3) (r := 0) (by decide +kernel) rfl rfl rfl (?_ : AW _ _ _ _ 13 _ _ _ _ _ _)
    refine AW.getI (idx := 90) (ci := 2) (k := 1) (r := 11) (by decide +kernel) rfl rfl rfl (?_ : AW _ _ _ _ 16 _ _ _ _ _ _)
    refine AW.icmp_ge (off := 35) (tgt := 51) (by decide +kernel) (by decide) (fun _ => ?_) (fun _ => ?_)
    · refine AW.sub (L' := [(1, zI v1)]) [1] rfl ?_
      exact hK v1 μ
    · refine AW.aload_n (i := 0) (a := 0) (by decide +kernel) rfl (?_ : AW _ _ _ _ 20 _ _ _ _ _ _)
      refine AW.iload (i := 4) (a := v4) (by decide +kernel) rfl (?_ : AW _ _ _ _ 22 _ _ _ _ _ _)
      refine AW.callVw (g := cf_Ledger_netTakenWithout) (av := [zI v4]) (b0 := 0) (ci := 8) (idx := 236) (n := 1) (st := []) (by decide +kernel) (fun l hl r hr => c_Ledger_netTakenWithout l hl v4 _ r hr) S_Ledger_wf rfl cal_Ledger_netTakenWithout rfl (zw4 zm_X8_236 zi_yX8_netTakenWithout zs_yX8_netTakenWithout zn_X8) rfl rfl ⟨by decide, by decide, by decide, by decide⟩ (Nat.le_of_ble_eq_true rfl) (Or.inl rfl) (fun v μ1 => AW.kJ (fun x2 => (?_ : AW _ _ _ _ 25 _ _ _ _ _ _)) v)
      refine AW.lstore' (i := 5) (L' := [(5, zJ x2), (0, zR (some 0)), (1, zI v1), (2, zJ v2), (4, zI v4)]) (by decide +kernel) (by decide) rfl (?_ : AW _ _ _ _ 27 _ _ _ _ _ _)
      refine AW.iload_n (i := 1) (a := v1) (by decide +kernel) rfl (?_ : AW _ _ _ _ 28 _ _ _ _ _ _)
      refine AW.iconst (n := -1) (by decide +kernel) (?_ : AW _ _ _ _ 29 _ _ _ _ _ _)
      refine AW.icmp_eq (off := 10) (tgt := 39) (by decide +kernel) (by decide) (fun _ => ?_) (fun _ => ?_)
      · refine AW.sub (L' := [(0, zR (some 0)), (4, zI v4), (5, zJ x2)]) [1, 4, 0] rfl ?_
        exact j_Ledger_blame_39 ih hK v4 x2 μ1
      · refine AW.lload (i := 5) (a := x2) (by decide +kernel) rfl (?_ : AW _ _ _ _ 34 _ _ _ _ _ _)
        refine AW.lload_n (i := 2) (a := v2) (by decide +kernel) rfl (?_ : AW _ _ _ _ 35 _ _ _ _ _ _)
        refine AW.lcmp_le (off := 9) (tgt := 45) (by decide +kernel) (by decide +kernel) (by decide) (fun _ => ?_) (fun _ => ?_)
        · refine AW.sub (L' := [(0, zR (some 0)), (1, zI v1), (2, zJ v2), (4, zI v4)]) [1, 2, 3, 4] rfl ?_
          exact j_Ledger_blame_45 ih hK v1 v2 v4 μ1
        · refine AW.sub (L' := [(0, zR (some 0)), (4, zI v4), (5, zJ x2)]) [1, 4, 0] rfl ?_
          exact j_Ledger_blame_39 ih hK v4 x2 μ1
def F_Ledger_blame (μ : ZMem) : Option ZRes := L_Ledger_blame_7 (fun k5 μ4 => some (.inr (some (zI k5)), μ4)) zN (-1) 0 0 μ
set_option maxRecDepth 100000 in
theorem w_Ledger_blame (μ : ZMem) : AW cf_Ledger_blame S_Ledger.length S_Ledger S_Ledger 0 [(0, zR (some 0))] [] μ 0 0 (F_Ledger_blame μ) := by
  unfold F_Ledger_blame
  refine AW.iconst (n := -1) (by decide +kernel) (?_ : AW _ _ _ _ 1 _ _ _ _ _ _)
  refine AW.istore_n' (i := 1) (L' := [(1, zI (-1)), (0, zR (some 0))]) (by decide +kernel) (by decide) rfl (?_ : AW _ _ _ _ 2 _ _ _ _ _ _)
  refine AW.lconst0 (by decide +kernel) (?_ : AW _ _ _ _ 3 _ _ _ _ _ _)
  refine AW.lstore_n' (i := 2) (L' := [(2, zJ 0), (1, zI (-1)), (0, zR (some 0))]) (by decide +kernel) (by decide) rfl (?_ : AW _ _ _ _ 4 _ _ _ _ _ _)
  refine AW.iconst (n := 0) (by decide +kernel) (?_ : AW _ _ _ _ 5 _ _ _ _ _ _)
  refine AW.istore' (i := 4) (L' := [(4, zI 0), (2, zJ 0), (1, zI (-1)), (0, zR (some 0))]) (by decide +kernel) (by decide) rfl (?_ : AW _ _ _ _ 7 _ _ _ _ _ _)
  refine AW.sub (L' := [(0, zR (some 0)), (1, zI (-1)), (2, zJ 0), (4, zI 0)]) [3, 2, 1, 0] rfl ?_
  refine l_Ledger_blame_7 (fun k5 μ4 => ?_) zN _ _ _ _
  refine AW.iload_n (i := 1) (a := k5) (by decide +kernel) rfl (?_ : AW _ _ _ _ 52 _ _ _ _ _ _)
  exact AW.reti (by decide +kernel) rfl (by decide) (by decide)
theorem c_Ledger_blame (l : Launch) (hl : l.stackTraces = false) (μ : ZMem) (r : ZRes) (h : F_Ledger_blame μ = some r) : ZC l cf_Ledger_blame S_Ledger S_Ledger [zR (some 0)] μ r := ZC.of hl (by decide +kernel) rfl rfl zft_X8_ok (Nat.le_of_ble_eq_true rfl) h (w_Ledger_blame μ)
/-! WeirLedger.most()J -/
def cf_Ledger_most : ZCf := (yX8_most, cX8_most, 4, some .long, [], 7, 0, 0, zft_X8, none)
theorem cal_Ledger_most : zCallee cf_Ledger_most 0 := ⟨rfl, zc_yX8_most, by decide, by decide, by decide +kernel⟩
def L_Ledger_most_26 (K : Int → ZMem → Option ZRes) : Nat → Int → Int → ZMem → Option ZRes
  | 0, _, _, _ => none
  | n + 1, v1, v3, μ => if w32 (μ 11 1) ≤ w32 v3 then (K v1 μ) else (zCm [32, 33, 34, 35, 36, 37, 38, 39, 40, 41, 42, 43, 44, 45, 46, 47, 48, 49, 50, 11, 12] μ (F_State_follow_w2 v3 (zVw [32, 33, 34, 35, 36, 37, 38, 39, 40, 41, 42, 43, 44, 45, 46, 47, 48, 49, 50, 11, 12] μ)) (zkI (fun x6 μ5 => zCm [33, 34, 35, 36, 37, 38] μ5 (F_Books_standing 6 (zVw [33, 34, 35, 36, 37, 38] μ5)) (zkJ (fun x8 μ7 => zLet ((zmaxJ v1 x8)) (fun x9 => zLet (v3 + 1) (fun x10 => L_Ledger_most_26 K n x9 x10 μ7)))) zX0)) zX0)
set_option maxRecDepth 100000 in
theorem l_Ledger_most_26 {K : Int → ZMem → Option ZRes} (hK : ∀ (k1 : Int) (μ : ZMem), AW cf_Ledger_most S_Ledger.length S_Ledger S_Ledger 73 [(1, zJ k1)] [] μ 0 0 (K k1 μ)) : ∀ (n : Nat) (v1 : Int) (v3 : Int) (μ : ZMem), AW cf_Ledger_most S_Ledger.length S_Ledger S_Ledger 26 [(0, zR (some 0)), (1, zJ v1), (3, zI v3)] [] μ 0 0 (L_Ledger_most_26 K n v1 v3 μ) := by
  intro n
  induction n with
  | zero => intro v1 v3 μ; exact AW.noth
  | succ n ih =>
    intro v1 v3 μ
    rw [L_Ledger_most_26]
    refine AW.iload_n (i := 3) (a := v3) (by decide +kernel) rfl (?_ : AW _ _ _ _ 27 _ _ _ _ _ _)
    refine AW.aload_n (i := 0) (a := 0) (by decide +kernel) rfl (?_ : AW _ _ _ _ 28 _ _ _ _ _ _)
    refine AW.getR (idx := 29) (ci := 8) (k := 3) (r := 0) (by decide +kernel) rfl rfl rfl (?_ : AW _ _ _ _ 31 _ _ _ _ _ _)
    refine AW.getI (idx := 90) (ci := 2) (k := 1) (r := 11) (by decide +kernel) rfl rfl rfl (?_ : AW _ _ _ _ 34 _ _ _ _ _ _)
    refine AW.icmp_ge (off := 39) (tgt := 73) (by decide +kernel) (by decide) (fun _ => ?_) (fun _ => ?_)
    · refine AW.sub (L' := [(1, zJ v1)]) [1] rfl ?_
      exact hK v1 μ
    · refine AW.aload_n (i := 0) (a := 0) (by decide +kernel) rfl (?_ : AW _ _ _ _ 38 _ _ _ _ _ _)
      refine AW.getR (idx := 42) (ci := 8) (k := 5) (r := 0) (by decide +kernel) rfl rfl rfl (?_ : AW _ _ _ _ 41 _ _ _ _ _ _)
      refine AW.aload_n (i := 0) (a := 0) (by decide +kernel) rfl (?_ : AW _ _ _ _ 42 _ _ _ _ _ _)
      refine AW.getR (idx := 29) (ci := 8) (k := 3) (r := 0) (by decide +kernel) rfl rfl rfl (?_ : AW _ _ _ _ 45 _ _ _ _ _ _)
      refine AW.iload_n (i := 3) (a := v3) (by decide +kernel) rfl (?_ : AW _ _ _ _ 46 _ _ _ _ _ _)
      refine AW.callVm (g := cf_State_follow_w2) (Sg := S_State6) (pl := [32, 33, 34, 35, 36, 37, 38, 39, 40, 41, 42, 43, 44, 45, 46, 47, 48, 49, 50, 11, 12]) (av := [zR (some 19), zI v3]) (b0 := 0) (ci := 5) (idx := 232) (n := 2) (st := []) (by decide +kernel) (fun l hl r hr => c_State_follow_w2 l hl v3 _ r hr) sb_61 rfl cal_State_follow_w2 rfl (zw4 zm_X8_232 zi_yX5_follow zs_yX5_follow zn_X5) rfl rfl ⟨by decide, by decide, by decide, by decide⟩ (Nat.le_of_ble_eq_true rfl) (Or.inl rfl) (fun v μ5 => AW.rI (fun x6 => (?_ : AW _ _ _ _ 49 _ _ _ _ _ _)) v)
      refine AW.pop (by decide +kernel) rfl (?_ : AW _ _ _ _ 50 _ _ _ _ _ _)
      refine AW.lload_n (i := 1) (a := v1) (by decide +kernel) rfl (?_ : AW _ _ _ _ 51 _ _ _ _ _ _)
      refine AW.aload_n (i := 0) (a := 0) (by decide +kernel) rfl (?_ : AW _ _ _ _ 52 _ _ _ _ _ _)
      refine AW.getR (idx := 42) (ci := 8) (k := 5) (r := 0) (by decide +kernel) rfl rfl rfl (?_ : AW _ _ _ _ 55 _ _ _ _ _ _)
      refine AW.getR (idx := 152) (ci := 5) (k := 0) (r := 32) (by decide +kernel) rfl rfl rfl (?_ : AW _ _ _ _ 58 _ _ _ _ _ _)
      refine AW.bipush (n := 6) (by decide +kernel) (by decide +kernel) (?_ : AW _ _ _ _ 60 _ _ _ _ _ _)
      refine AW.callVm (g := cf_Books_standing) (Sg := S_Books3) (pl := [33, 34, 35, 36, 37, 38]) (av := [zI 6]) (b0 := 0) (ci := 0) (idx := 251) (n := 1) (st := [zJ v1]) (by decide +kernel) (fun l hl r hr => c_Books_standing l hl 6 _ r hr) sb_59 rfl cal_Books_standing rfl (zw4 zm_X8_251 zi_yX0_standing zs_yX0_standing zn_X0) rfl rfl ⟨by decide, by decide, by decide, by decide⟩ (Nat.le_of_ble_eq_true rfl) (Or.inl rfl) (fun v μ7 => AW.rJ (fun x8 => (?_ : AW _ _ _ _ 63 _ _ _ _ _ _)) v)
      refine AW.maxJ (idx := 254) (by decide +kernel) zm_X8_254 rfl (?_ : AW _ _ _ _ 66 _ _ _ _ _ _)
      refine AW.lstoreL_n (i := 1) (L' := fun x9 => [(1, zJ x9), (0, zR (some 0)), (3, zI v3)]) (by decide +kernel) (by decide) (fun _ => rfl) (fun x9 => (?_ : AW _ _ _ _ 67 _ _ _ _ _ _))
      refine AW.iincL (i := 3) (n := 1) (a := v3) (L' := fun x10 => [(3, zI x10), (1, zJ x9), (0, zR (some 0))]) (by decide +kernel) rfl (by decide) (fun _ => rfl) (fun x10 => (?_ : AW _ _ _ _ 70 _ _ _ _ _ _))
      refine AW.goto (off := -44) (tgt := 26) (by decide +kernel) (by decide) ?_
      refine AW.sub (L' := [(0, zR (some 0)), (1, zJ x9), (3, zI x10)]) [2, 1, 0] rfl ?_
      exact ih x9 x10 μ7
def F_Ledger_most (μ : ZMem) : Option ZRes := zCm [32, 33, 34, 35, 36, 37, 38, 39, 40, 41, 42, 43, 44, 45, 46, 47, 48, 49, 50, 3, 4, 5, 6] μ (F_State_open_w2  (zVw [32, 33, 34, 35, 36, 37, 38, 39, 40, 41, 42, 43, 44, 45, 46, 47, 48, 49, 50, 3, 4, 5, 6] μ)) (zkV (fun μ1 => zCm [33, 34, 35, 36, 37, 38] μ1 (F_Books_standing 6 (zVw [33, 34, 35, 36, 37, 38] μ1)) (zkJ (fun x4 μ3 => L_Ledger_most_26 (fun k12 μ11 => some (.inr (some (zJ k12)), μ11)) zN x4 0 μ3)) zX0)) zX0
set_option maxRecDepth 100000 in
theorem w_Ledger_most (μ : ZMem) : AW cf_Ledger_most S_Ledger.length S_Ledger S_Ledger 0 [(0, zR (some 0))] [] μ 0 0 (F_Ledger_most μ) := by
  unfold F_Ledger_most
  refine AW.aload_n (i := 0) (a := 0) (by decide +kernel) rfl (?_ : AW _ _ _ _ 1 _ _ _ _ _ _)
  refine AW.getR (idx := 42) (ci := 8) (k := 5) (r := 0) (by decide +kernel) rfl rfl rfl (?_ : AW _ _ _ _ 4 _ _ _ _ _ _)
  refine AW.aload_n (i := 0) (a := 0) (by decide +kernel) rfl (?_ : AW _ _ _ _ 5 _ _ _ _ _ _)
  refine AW.getR (idx := 19) (ci := 8) (k := 1) (r := 0) (by decide +kernel) rfl rfl rfl (?_ : AW _ _ _ _ 8 _ _ _ _ _ _)
  refine AW.callVm (g := cf_State_open_w2) (Sg := S_State4) (pl := [32, 33, 34, 35, 36, 37, 38, 39, 40, 41, 42, 43, 44, 45, 46, 47, 48, 49, 50, 3, 4, 5, 6]) (av := [zR (some 19)]) (b0 := 0) (ci := 5) (idx := 229) (n := 1) (st := []) (by decide +kernel) (fun l hl r hr => c_State_open_w2 l hl  _ r hr) sb_60 rfl cal_State_open_w2 rfl (zw4 zm_X8_229 zi_yX5_open zs_yX5_open zn_X5) rfl rfl ⟨by decide, by decide, by decide, by decide⟩ (Nat.le_of_ble_eq_true rfl) (Or.inl rfl) (fun v μ1 => AW.rV (?_ : AW _ _ _ _ 11 _ _ _ _ _ _) v)
  refine AW.aload_n (i := 0) (a := 0) (by decide +kernel) rfl (?_ : AW _ _ _ _ 12 _ _ _ _ _ _)
  refine AW.getR (idx := 42) (ci := 8) (k := 5) (r := 0) (by decide +kernel) rfl rfl rfl (?_ : AW _ _ _ _ 15 _ _ _ _ _ _)
  refine AW.getR (idx := 152) (ci := 5) (k := 0) (r := 32) (by decide +kernel) rfl rfl rfl (?_ : AW _ _ _ _ 18 _ _ _ _ _ _)
  refine AW.bipush (n := 6) (by decide +kernel) (by decide +kernel) (?_ : AW _ _ _ _ 20 _ _ _ _ _ _)
  refine AW.callVm (g := cf_Books_standing) (Sg := S_Books3) (pl := [33, 34, 35, 36, 37, 38]) (av := [zI 6]) (b0 := 0) (ci := 0) (idx := 251) (n := 1) (st := []) (by decide +kernel) (fun l hl r hr => c_Books_standing l hl 6 _ r hr) sb_59 rfl cal_Books_standing rfl (zw4 zm_X8_251 zi_yX0_standing zs_yX0_standing zn_X0) rfl rfl ⟨by decide, by decide, by decide, by decide⟩ (Nat.le_of_ble_eq_true rfl) (Or.inl rfl) (fun v μ3 => AW.rJ (fun x4 => (?_ : AW _ _ _ _ 23 _ _ _ _ _ _)) v)
  refine AW.lstore_n' (i := 1) (L' := [(1, zJ x4), (0, zR (some 0))]) (by decide +kernel) (by decide) rfl (?_ : AW _ _ _ _ 24 _ _ _ _ _ _)
  refine AW.iconst (n := 0) (by decide +kernel) (?_ : AW _ _ _ _ 25 _ _ _ _ _ _)
  refine AW.istore_n' (i := 3) (L' := [(3, zI 0), (1, zJ x4), (0, zR (some 0))]) (by decide +kernel) (by decide) rfl (?_ : AW _ _ _ _ 26 _ _ _ _ _ _)
  refine AW.sub (L' := [(0, zR (some 0)), (1, zJ x4), (3, zI 0)]) [2, 1, 0] rfl ?_
  refine l_Ledger_most_26 (fun k12 μ11 => ?_) zN _ _ _
  refine AW.lload_n (i := 1) (a := k12) (by decide +kernel) rfl (?_ : AW _ _ _ _ 74 _ _ _ _ _ _)
  exact AW.retl (by decide +kernel) rfl (by decide) (by decide)
theorem c_Ledger_most (l : Launch) (hl : l.stackTraces = false) (μ : ZMem) (r : ZRes) (h : F_Ledger_most μ = some r) : ZC l cf_Ledger_most S_Ledger S_Ledger [zR (some 0)] μ r := ZC.of hl (by decide +kernel) rfl rfl zft_X8_ok (Nat.le_of_ble_eq_true rfl) h (w_Ledger_most μ)
theorem sb_63 : zSub S_Ledger [97, 98, 99, 100, 101, 102, 14, 15, 16, 17, 18, 19] S_Books2 := ⟨rfl, by decide +kernel, by decide +kernel, rfl⟩
theorem sb_64 : zSub S_Ledger [97, 98, 99, 100, 101, 102] S_Books3 := ⟨rfl, by decide +kernel, by decide +kernel, rfl⟩
/-! WeirLedger.owed(II)J -/
def cf_Ledger_owed : ZCf := (yX8_owed, cX8_owed, 8, some .long, [], 10, 1, 6, zft_X8, none)
theorem cal_Ledger_owed : zCallee cf_Ledger_owed 2 := ⟨rfl, zc_yX8_owed, by decide, by decide, by decide +kernel⟩
theorem thr_Ledger_owed_8 : zThr cf_Ledger_owed 8 117 119 zEn "java/lang/IndexOutOfBoundsException" := zThr_of ztw_IndexOutOfBoundsException (by decide +kernel) (by decide +kernel) (by decide +kernel) (by decide +kernel) rfl (by decide)
theorem thr_Ledger_owed_44 : zThr cf_Ledger_owed 44 83 85 zEn "java/lang/IllegalArgumentException" := zThr_of ztw_IllegalArgumentException (by decide +kernel) (by decide +kernel) (by decide +kernel) (by decide +kernel) rfl (by decide)
def J_Ledger_owed_44 (μ : ZMem) : Option ZRes := some (.inl "java/lang/IllegalArgumentException", μ)
set_option maxRecDepth 100000 in
theorem j_Ledger_owed_44 (μ : ZMem) : AW cf_Ledger_owed S_Ledger.length S_Ledger S_Ledger 44 [] [] μ 0 0 (J_Ledger_owed_44 μ) := by
  unfold J_Ledger_owed_44
  exact AW.throw thr_Ledger_owed_44 (by decide) (by decide) (by decide)
def L_Ledger_owed_90 (c1 : Int) (c2 : Int) (K : ZMem → Option ZRes) : Nat → Int → Int → ZMem → Option ZRes
  | 0, _, _, _ => none
  | n + 1, v3, v5, μ => if w32 c2 ≤ w32 v5 then (K  μ) else (zCm [13, 14, 15, 16, 17, 18, 19, 20, 21, 22, 23, 24, 25, 26, 27, 28, 29, 30, 31] μ (F_State_fullFee  (zVw [13, 14, 15, 16, 17, 18, 19, 20, 21, 22, 23, 24, 25, 26, 27, 28, 29, 30, 31] μ)) (zkJ (fun x8 μ7 => zLet ((zminJ x8 v3)) (fun x9 => zLet ((v3 - x9)) (fun x10 => zCm [97, 98, 99, 100, 101, 102] μ7 (F_Books_pass x9 (zVw [97, 98, 99, 100, 101, 102] μ7)) (zkV (fun μ11 => zLet (v5 + 1) (fun x13 => L_Ledger_owed_90 c1 c2 K n x10 x13 μ11))) zX0)))) zX0)
set_option maxRecDepth 100000 in
theorem l_Ledger_owed_90 {c1 : Int} {c2 : Int} {K : ZMem → Option ZRes} (hK : ∀ (μ : ZMem), AW cf_Ledger_owed S_Ledger.length S_Ledger S_Ledger 129 [(0, zR (some 0)), (1, zI c1)] [] μ 0 0 (K μ)) : ∀ (n : Nat) (v3 : Int) (v5 : Int) (μ : ZMem), AW cf_Ledger_owed S_Ledger.length S_Ledger S_Ledger 90 [(0, zR (some 0)), (1, zI c1), (2, zI c2), (3, zJ v3), (5, zI v5)] [] μ 0 0 (L_Ledger_owed_90 c1 c2 K n v3 v5 μ) := by
  intro n
  induction n with
  | zero => intro v3 v5 μ; exact AW.noth
  | succ n ih =>
    intro v3 v5 μ
    rw [L_Ledger_owed_90]
    refine AW.iload (i := 5) (a := v5) (by decide +kernel) rfl (?_ : AW _ _ _ _ 92 _ _ _ _ _ _)
    refine AW.iload_n (i := 2) (a := c2) (by decide +kernel) rfl (?_ : AW _ _ _ _ 93 _ _ _ _ _ _)
    refine AW.icmp_ge (off := 36) (tgt := 129) (by decide +kernel) (by decide) (fun _ => ?_) (fun _ => ?_)
    · refine AW.sub (L' := [(0, zR (some 0)), (1, zI c1)]) [0, 1] rfl ?_
      exact hK  μ
    · refine AW.aload_n (i := 0) (a := 0) (by decide +kernel) rfl (?_ : AW _ _ _ _ 97 _ _ _ _ _ _)
      refine AW.getR (idx := 38) (ci := 8) (k := 4) (r := 0) (by decide +kernel) rfl rfl rfl (?_ : AW _ _ _ _ 100 _ _ _ _ _ _)
      refine AW.callVm (g := cf_State_fullFee) (Sg := S_State2) (pl := [13, 14, 15, 16, 17, 18, 19, 20, 21, 22, 23, 24, 25, 26, 27, 28, 29, 30, 31]) (av := []) (b0 := 0) (ci := 5) (idx := 260) (n := 0) (st := []) (by decide +kernel) (fun l hl r hr => c_State_fullFee l hl  _ r hr) sb_49 rfl cal_State_fullFee rfl (zw4 zm_X8_260 zi_yX5_fullFee zs_yX5_fullFee zn_X5) rfl rfl ⟨by decide, by decide, by decide, by decide⟩ (Nat.le_of_ble_eq_true rfl) (Or.inl rfl) (fun v μ7 => AW.rJ (fun x8 => (?_ : AW _ _ _ _ 103 _ _ _ _ _ _)) v)
      refine AW.lload_n (i := 3) (a := v3) (by decide +kernel) rfl (?_ : AW _ _ _ _ 104 _ _ _ _ _ _)
      refine AW.minJ (idx := 263) (by decide +kernel) zm_X8_263 rfl (?_ : AW _ _ _ _ 107 _ _ _ _ _ _)
      refine AW.lstoreL (i := 6) (L' := fun x9 => [(6, zJ x9), (0, zR (some 0)), (1, zI c1), (2, zI c2), (3, zJ v3), (5, zI v5)]) (by decide +kernel) (by decide) (fun _ => rfl) (fun x9 => (?_ : AW _ _ _ _ 109 _ _ _ _ _ _))
      refine AW.lload_n (i := 3) (a := v3) (by decide +kernel) rfl (?_ : AW _ _ _ _ 110 _ _ _ _ _ _)
      refine AW.lload (i := 6) (a := x9) (by decide +kernel) rfl (?_ : AW _ _ _ _ 112 _ _ _ _ _ _)
      refine AW.lsub (by decide +kernel) (?_ : AW _ _ _ _ 113 _ _ _ _ _ _)
      refine AW.lstoreL_n (i := 3) (L' := fun x10 => [(3, zJ x10), (6, zJ x9), (0, zR (some 0)), (1, zI c1), (2, zI c2), (5, zI v5)]) (by decide +kernel) (by decide) (fun _ => rfl) (fun x10 => (?_ : AW _ _ _ _ 114 _ _ _ _ _ _))
      refine AW.aload_n (i := 0) (a := 0) (by decide +kernel) rfl (?_ : AW _ _ _ _ 115 _ _ _ _ _ _)
      refine AW.getR (idx := 55) (ci := 8) (k := 7) (r := 0) (by decide +kernel) rfl rfl rfl (?_ : AW _ _ _ _ 118 _ _ _ _ _ _)
      refine AW.lload (i := 6) (a := x9) (by decide +kernel) rfl (?_ : AW _ _ _ _ 120 _ _ _ _ _ _)
      refine AW.callVm (g := cf_Books_pass) (Sg := S_Books3) (pl := [97, 98, 99, 100, 101, 102]) (av := [zJ x9]) (b0 := 0) (ci := 0) (idx := 266) (n := 1) (st := []) (by decide +kernel) (fun l hl r hr => c_Books_pass l hl x9 _ r hr) sb_64 rfl cal_Books_pass rfl (zw4 zm_X8_266 zi_yX0_pass zs_yX0_pass zn_X0) rfl rfl ⟨by decide, by decide, by decide, by decide⟩ (Nat.le_of_ble_eq_true rfl) (Or.inl rfl) (fun v μ11 => AW.rV (?_ : AW _ _ _ _ 123 _ _ _ _ _ _) v)
      refine AW.iincL (i := 5) (n := 1) (a := v5) (L' := fun x13 => [(5, zI x13), (3, zJ x10), (6, zJ x9), (0, zR (some 0)), (1, zI c1), (2, zI c2)]) (by decide +kernel) rfl (by decide) (fun _ => rfl) (fun x13 => (?_ : AW _ _ _ _ 126 _ _ _ _ _ _))
      refine AW.goto (off := -36) (tgt := 90) (by decide +kernel) (by decide) ?_
      refine AW.sub (L' := [(0, zR (some 0)), (1, zI c1), (2, zI c2), (3, zJ x10), (5, zI x13)]) [3, 4, 5, 1, 0] rfl ?_
      exact ih x10 x13 μ11
def J_Ledger_owed_144 (μ : ZMem) : Option ZRes := zCm [97, 98, 99, 100, 101, 102] μ (F_Books_standing 6 (zVw [97, 98, 99, 100, 101, 102] μ)) (zkJ (fun x16 μ15 => some (.inr (some (zJ x16)), μ15))) zX0
set_option maxRecDepth 100000 in
theorem j_Ledger_owed_144 (μ : ZMem) : AW cf_Ledger_owed S_Ledger.length S_Ledger S_Ledger 144 [(0, zR (some 0))] [] μ 0 0 (J_Ledger_owed_144 μ) := by
  unfold J_Ledger_owed_144
  refine AW.aload_n (i := 0) (a := 0) (by decide +kernel) rfl (?_ : AW _ _ _ _ 145 _ _ _ _ _ _)
  refine AW.getR (idx := 55) (ci := 8) (k := 7) (r := 0) (by decide +kernel) rfl rfl rfl (?_ : AW _ _ _ _ 148 _ _ _ _ _ _)
  refine AW.bipush (n := 6) (by decide +kernel) (by decide +kernel) (?_ : AW _ _ _ _ 150 _ _ _ _ _ _)
  refine AW.callVm (g := cf_Books_standing) (Sg := S_Books3) (pl := [97, 98, 99, 100, 101, 102]) (av := [zI 6]) (b0 := 0) (ci := 0) (idx := 251) (n := 1) (st := []) (by decide +kernel) (fun l hl r hr => c_Books_standing l hl 6 _ r hr) sb_64 rfl cal_Books_standing rfl (zw4 zm_X8_251 zi_yX0_standing zs_yX0_standing zn_X0) rfl rfl ⟨by decide, by decide, by decide, by decide⟩ (Nat.le_of_ble_eq_true rfl) (Or.inl rfl) (fun v μ15 => AW.rJ (fun x16 => (?_ : AW _ _ _ _ 153 _ _ _ _ _ _)) v)
  exact AW.retl (by decide +kernel) rfl (by decide) (by decide)
def F_Ledger_owed (a1 : Int) (a2 : Int) (μ : ZMem) : Option ZRes := zC (F_Ledger_isDealOrNone a1 μ) (zkI (fun x2 μ1 => if w32 x2 = 0 then (some (.inl "java/lang/IndexOutOfBoundsException", μ1)) else (if w32 a2 < 0 then (J_Ledger_owed_44 μ1) else (if w32 60 < w32 a2 then (J_Ledger_owed_44 μ1) else (if w32 ((μ1 14 6) + a2) ≤ w32 200 then (zCm [97, 98, 99, 100, 101, 102, 14, 15, 16, 17, 18, 19] μ1 (F_Books_copyFrom  (zVw [97, 98, 99, 100, 101, 102, 14, 15, 16, 17, 18, 19] μ1)) (zkV (fun μ3 => zCm [20, 21, 22, 23, 24, 25, 26, 27, 28] μ3 (F_Register_allOf_2  (zVw [20, 21, 22, 23, 24, 25, 26, 27, 28] μ3)) (zkJ (fun x6 μ5 => L_Ledger_owed_90 a1 a2 (fun μ14 => if w32 a1 = w32 (-1) then (J_Ledger_owed_144 μ14) else (zCm [97, 98, 99, 100, 101, 102] μ14 (F_Books_isDealwise  (zVw [97, 98, 99, 100, 101, 102] μ14)) (zkI (fun x18 μ17 => if w32 x18 = 0 then (J_Ledger_owed_144 μ17) else (zCm [97, 98, 99, 100, 101, 102] μ17 (F_Books_standing a1 (zVw [97, 98, 99, 100, 101, 102] μ17)) (zkJ (fun x20 μ19 => zCm [97, 98, 99, 100, 101, 102] μ19 (F_Books_standing 7 (zVw [97, 98, 99, 100, 101, 102] μ19)) (zkJ (fun x22 μ21 => some (.inr (some (zJ (x20 + x22))), μ21))) zX0)) zX0))) zX0)) zN x6 0 μ5)) zX0)) zX0) else (J_Ledger_owed_44 μ1)))))) zX0
set_option maxRecDepth 100000 in
theorem w_Ledger_owed (a1 : Int) (a2 : Int) (μ : ZMem) : AW cf_Ledger_owed S_Ledger.length S_Ledger S_Ledger 0 [(0, zR (some 0)), (1, zI a1), (2, zI a2)] [] μ 0 0 (F_Ledger_owed a1 a2 μ) := by
  unfold F_Ledger_owed
  refine AW.aload_n (i := 0) (a := 0) (by decide +kernel) rfl (?_ : AW _ _ _ _ 1 _ _ _ _ _ _)
  refine AW.iload_n (i := 1) (a := a1) (by decide +kernel) rfl (?_ : AW _ _ _ _ 2 _ _ _ _ _ _)
  refine AW.callVw (g := cf_Ledger_isDealOrNone) (av := [zI a1]) (b0 := 0) (ci := 8) (idx := 171) (n := 1) (st := []) (by decide +kernel) (fun l hl r hr => c_Ledger_isDealOrNone l hl a1 _ r hr) S_Ledger_wf rfl cal_Ledger_isDealOrNone rfl (zw4 zm_X8_171 zi_yX8_isDealOrNone zs_yX8_isDealOrNone zn_X8) rfl rfl ⟨by decide, by decide, by decide, by decide⟩ (Nat.le_of_ble_eq_true rfl) (Or.inl rfl) (fun v μ1 => AW.kI (fun x2 => (?_ : AW _ _ _ _ 5 _ _ _ _ _ _)) v)
  refine AW.if_ne (off := 11) (tgt := 16) (by decide +kernel) (by decide) (fun _ => ?_) (fun _ => ?_)
  · exact AW.throw thr_Ledger_owed_8 (by decide) (by decide) (by decide)
  · refine AW.iload_n (i := 2) (a := a2) (by decide +kernel) rfl (?_ : AW _ _ _ _ 17 _ _ _ _ _ _)
    refine AW.if_lt (off := 27) (tgt := 44) (by decide +kernel) (by decide) (fun _ => ?_) (fun _ => ?_)
    · refine AW.sub (L' := []) [] rfl ?_
      exact j_Ledger_owed_44 μ1
    · refine AW.iload_n (i := 2) (a := a2) (by decide +kernel) rfl (?_ : AW _ _ _ _ 21 _ _ _ _ _ _)
      refine AW.bipush (n := 60) (by decide +kernel) (by decide +kernel) (?_ : AW _ _ _ _ 23 _ _ _ _ _ _)
      refine AW.icmp_gt (off := 21) (tgt := 44) (by decide +kernel) (by decide) (fun _ => ?_) (fun _ => ?_)
      · refine AW.sub (L' := []) [] rfl ?_
        exact j_Ledger_owed_44 μ1
      · refine AW.aload_n (i := 0) (a := 0) (by decide +kernel) rfl (?_ : AW _ _ _ _ 27 _ _ _ _ _ _)
        refine AW.getR (idx := 38) (ci := 8) (k := 4) (r := 0) (by decide +kernel) rfl rfl rfl (?_ : AW _ _ _ _ 30 _ _ _ _ _ _)
        refine AW.getR (idx := 152) (ci := 5) (k := 0) (r := 13) (by decide +kernel) rfl rfl rfl (?_ : AW _ _ _ _ 33 _ _ _ _ _ _)
        refine AW.getI (idx := 244) (ci := 0) (k := 6) (r := 14) (by decide +kernel) rfl rfl rfl (?_ : AW _ _ _ _ 36 _ _ _ _ _ _)
        refine AW.iload_n (i := 2) (a := a2) (by decide +kernel) rfl (?_ : AW _ _ _ _ 37 _ _ _ _ _ _)
        refine AW.iadd (by decide +kernel) (?_ : AW _ _ _ _ 38 _ _ _ _ _ _)
        refine AW.sipush (n := 200) (by decide +kernel) (by decide +kernel) (?_ : AW _ _ _ _ 41 _ _ _ _ _ _)
        refine AW.icmp_le (off := 11) (tgt := 52) (by decide +kernel) (by decide) (fun _ => ?_) (fun _ => ?_)
        · refine AW.aload_n (i := 0) (a := 0) (by decide +kernel) rfl (?_ : AW _ _ _ _ 53 _ _ _ _ _ _)
          refine AW.getR (idx := 55) (ci := 8) (k := 7) (r := 0) (by decide +kernel) rfl rfl rfl (?_ : AW _ _ _ _ 56 _ _ _ _ _ _)
          refine AW.aload_n (i := 0) (a := 0) (by decide +kernel) rfl (?_ : AW _ _ _ _ 57 _ _ _ _ _ _)
          refine AW.getR (idx := 38) (ci := 8) (k := 4) (r := 0) (by decide +kernel) rfl rfl rfl (?_ : AW _ _ _ _ 60 _ _ _ _ _ _)
          refine AW.getR (idx := 152) (ci := 5) (k := 0) (r := 13) (by decide +kernel) rfl rfl rfl (?_ : AW _ _ _ _ 63 _ _ _ _ _ _)
          refine AW.callVm (g := cf_Books_copyFrom) (Sg := S_Books2) (pl := [97, 98, 99, 100, 101, 102, 14, 15, 16, 17, 18, 19]) (av := [zR (some 6)]) (b0 := 0) (ci := 0) (idx := 197) (n := 1) (st := []) (by decide +kernel) (fun l hl r hr => c_Books_copyFrom l hl  _ r hr) sb_63 rfl cal_Books_copyFrom rfl (zw4 zm_X8_197 zi_yX0_copyFrom zs_yX0_copyFrom zn_X0) rfl rfl ⟨by decide, by decide, by decide, by decide⟩ (Nat.le_of_ble_eq_true rfl) (Or.inl rfl) (fun v μ3 => AW.rV (?_ : AW _ _ _ _ 66 _ _ _ _ _ _) v)
          refine AW.aload_n (i := 0) (a := 0) (by decide +kernel) rfl (?_ : AW _ _ _ _ 67 _ _ _ _ _ _)
          refine AW.getR (idx := 38) (ci := 8) (k := 4) (r := 0) (by decide +kernel) rfl rfl rfl (?_ : AW _ _ _ _ 70 _ _ _ _ _ _)
          refine AW.getR (idx := 120) (ci := 5) (k := 1) (r := 13) (by decide +kernel) rfl rfl rfl (?_ : AW _ _ _ _ 73 _ _ _ _ _ _)
          refine AW.aload_n (i := 0) (a := 0) (by decide +kernel) rfl (?_ : AW _ _ _ _ 74 _ _ _ _ _ _)
          refine AW.getR (idx := 38) (ci := 8) (k := 4) (r := 0) (by decide +kernel) rfl rfl rfl (?_ : AW _ _ _ _ 77 _ _ _ _ _ _)
          refine AW.getR (idx := 120) (ci := 5) (k := 1) (r := 13) (by decide +kernel) rfl rfl rfl (?_ : AW _ _ _ _ 80 _ _ _ _ _ _)
          refine AW.getR (idx := 129) (ci := 4) (k := 1) (r := 20) (by decide +kernel) rfl rfl rfl (?_ : AW _ _ _ _ 83 _ _ _ _ _ _)
          refine AW.callVm (g := cf_Register_allOf_2) (Sg := S_Register2) (pl := [20, 21, 22, 23, 24, 25, 26, 27, 28]) (av := [zR (some 2)]) (b0 := 0) (ci := 4) (idx := 240) (n := 1) (st := []) (by decide +kernel) (fun l hl r hr => c_Register_allOf_2 l hl  _ r hr) sb_51 rfl cal_Register_allOf_2 rfl (zw4 zm_X8_240 zi_yX4_allOf zs_yX4_allOf zn_X4) rfl rfl ⟨by decide, by decide, by decide, by decide⟩ (Nat.le_of_ble_eq_true rfl) (Or.inl rfl) (fun v μ5 => AW.rJ (fun x6 => (?_ : AW _ _ _ _ 86 _ _ _ _ _ _)) v)
          refine AW.lstore_n' (i := 3) (L' := [(3, zJ x6), (0, zR (some 0)), (1, zI a1), (2, zI a2)]) (by decide +kernel) (by decide) rfl (?_ : AW _ _ _ _ 87 _ _ _ _ _ _)
          refine AW.iconst (n := 0) (by decide +kernel) (?_ : AW _ _ _ _ 88 _ _ _ _ _ _)
          refine AW.istore' (i := 5) (L' := [(5, zI 0), (3, zJ x6), (0, zR (some 0)), (1, zI a1), (2, zI a2)]) (by decide +kernel) (by decide) rfl (?_ : AW _ _ _ _ 90 _ _ _ _ _ _)
          refine AW.sub (L' := [(0, zR (some 0)), (1, zI a1), (2, zI a2), (3, zJ x6), (5, zI 0)]) [2, 3, 4, 1, 0] rfl ?_
          refine l_Ledger_owed_90 (fun μ14 => ?_) zN _ _ _
          refine AW.iload_n (i := 1) (a := a1) (by decide +kernel) rfl (?_ : AW _ _ _ _ 130 _ _ _ _ _ _)
          refine AW.iconst (n := -1) (by decide +kernel) (?_ : AW _ _ _ _ 131 _ _ _ _ _ _)
          refine AW.icmp_eq (off := 13) (tgt := 144) (by decide +kernel) (by decide) (fun _ => ?_) (fun _ => ?_)
          · refine AW.sub (L' := [(0, zR (some 0))]) [0] rfl ?_
            exact j_Ledger_owed_144 μ14
          · refine AW.aload_n (i := 0) (a := 0) (by decide +kernel) rfl (?_ : AW _ _ _ _ 135 _ _ _ _ _ _)
            refine AW.getR (idx := 55) (ci := 8) (k := 7) (r := 0) (by decide +kernel) rfl rfl rfl (?_ : AW _ _ _ _ 138 _ _ _ _ _ _)
            refine AW.callVm (g := cf_Books_isDealwise) (Sg := S_Books3) (pl := [97, 98, 99, 100, 101, 102]) (av := []) (b0 := 0) (ci := 0) (idx := 269) (n := 0) (st := []) (by decide +kernel) (fun l hl r hr => c_Books_isDealwise l hl  _ r hr) sb_64 rfl cal_Books_isDealwise rfl (zw4 zm_X8_269 zi_yX0_isDealwise zs_yX0_isDealwise zn_X0) rfl rfl ⟨by decide, by decide, by decide, by decide⟩ (Nat.le_of_ble_eq_true rfl) (Or.inl rfl) (fun v μ17 => AW.rI (fun x18 => (?_ : AW _ _ _ _ 141 _ _ _ _ _ _)) v)
            refine AW.if_ne (off := 13) (tgt := 154) (by decide +kernel) (by decide) (fun _ => ?_) (fun _ => ?_)
            · refine AW.sub (L' := [(0, zR (some 0))]) [0] rfl ?_
              exact j_Ledger_owed_144 μ17
            · refine AW.aload_n (i := 0) (a := 0) (by decide +kernel) rfl (?_ : AW _ _ _ _ 155 _ _ _ _ _ _)
              refine AW.getR (idx := 55) (ci := 8) (k := 7) (r := 0) (by decide +kernel) rfl rfl rfl (?_ : AW _ _ _ _ 158 _ _ _ _ _ _)
              refine AW.iload_n (i := 1) (a := a1) (by decide +kernel) rfl (?_ : AW _ _ _ _ 159 _ _ _ _ _ _)
              refine AW.callVm (g := cf_Books_standing) (Sg := S_Books3) (pl := [97, 98, 99, 100, 101, 102]) (av := [zI a1]) (b0 := 0) (ci := 0) (idx := 251) (n := 1) (st := []) (by decide +kernel) (fun l hl r hr => c_Books_standing l hl a1 _ r hr) sb_64 rfl cal_Books_standing rfl (zw4 zm_X8_251 zi_yX0_standing zs_yX0_standing zn_X0) rfl rfl ⟨by decide, by decide, by decide, by decide⟩ (Nat.le_of_ble_eq_true rfl) (Or.inl rfl) (fun v μ19 => AW.rJ (fun x20 => (?_ : AW _ _ _ _ 162 _ _ _ _ _ _)) v)
              refine AW.aload_n (i := 0) (a := 0) (by decide +kernel) rfl (?_ : AW _ _ _ _ 163 _ _ _ _ _ _)
              refine AW.getR (idx := 55) (ci := 8) (k := 7) (r := 0) (by decide +kernel) rfl rfl rfl (?_ : AW _ _ _ _ 166 _ _ _ _ _ _)
              refine AW.bipush (n := 7) (by decide +kernel) (by decide +kernel) (?_ : AW _ _ _ _ 168 _ _ _ _ _ _)
              refine AW.callVm (g := cf_Books_standing) (Sg := S_Books3) (pl := [97, 98, 99, 100, 101, 102]) (av := [zI 7]) (b0 := 0) (ci := 0) (idx := 251) (n := 1) (st := [zJ x20]) (by decide +kernel) (fun l hl r hr => c_Books_standing l hl 7 _ r hr) sb_64 rfl cal_Books_standing rfl (zw4 zm_X8_251 zi_yX0_standing zs_yX0_standing zn_X0) rfl rfl ⟨by decide, by decide, by decide, by decide⟩ (Nat.le_of_ble_eq_true rfl) (Or.inl rfl) (fun v μ21 => AW.rJ (fun x22 => (?_ : AW _ _ _ _ 171 _ _ _ _ _ _)) v)
              refine AW.ladd (by decide +kernel) (?_ : AW _ _ _ _ 172 _ _ _ _ _ _)
              exact AW.retl (by decide +kernel) rfl (by decide) (by decide)
        · refine AW.sub (L' := []) [] rfl ?_
          exact j_Ledger_owed_44 μ1
theorem c_Ledger_owed (l : Launch) (hl : l.stackTraces = false) (a1 : Int) (a2 : Int) (μ : ZMem) (r : ZRes) (h : F_Ledger_owed a1 a2 μ = some r) : ZC l cf_Ledger_owed S_Ledger S_Ledger [zR (some 0), zI a1, zI a2] μ r := ZC.of hl (by decide +kernel) rfl rfl zft_X8_ok (Nat.le_of_ble_eq_true rfl) h (w_Ledger_owed a1 a2 μ)
theorem sb_65 : zSub S_Ledger [103, 104, 105, 106, 107, 108, 97, 98, 99, 100, 101, 102] S_Books2 := ⟨rfl, by decide +kernel, by decide +kernel, rfl⟩
/-! WeirLedger.patience(I)I -/
def cf_Ledger_patience : ZCf := (yX8_patience, cX8_patience, 9, some .int, [], 10, 1, 6, zft_X8, none)
theorem cal_Ledger_patience : zCallee cf_Ledger_patience 1 := ⟨rfl, zc_yX8_patience, by decide, by decide, by decide +kernel⟩
theorem thr_Ledger_patience_10 : zThr cf_Ledger_patience 10 83 85 zEn "java/lang/IllegalArgumentException" := zThr_of ztw_IllegalArgumentException (by decide +kernel) (by decide +kernel) (by decide +kernel) (by decide +kernel) rfl (by decide)
def J_Ledger_patience_10 (μ : ZMem) : Option ZRes := some (.inl "java/lang/IllegalArgumentException", μ)
set_option maxRecDepth 100000 in
theorem j_Ledger_patience_10 (μ : ZMem) : AW cf_Ledger_patience S_Ledger.length S_Ledger S_Ledger 10 [] [] μ 0 0 (J_Ledger_patience_10 μ) := by
  unfold J_Ledger_patience_10
  exact AW.throw thr_Ledger_patience_10 (by decide) (by decide) (by decide)
def J_Ledger_patience_122 (R : Int → Int → Int → ZMem → Option ZRes) (K : Int → ZMem → Option ZRes) (c1 : Int) (u2 : Int) (c3 : Int) (u4 : Int) (u6 : Int) (μ : ZMem) : Option ZRes := zCm [13, 14, 15, 16, 17, 18, 19, 20, 21, 22, 23, 24, 25, 26, 27, 28, 29, 30, 31] μ (F_State_fullFee  (zVw [13, 14, 15, 16, 17, 18, 19, 20, 21, 22, 23, 24, 25, 26, 27, 28, 29, 30, 31] μ)) (zkJ (fun x12 μ11 => zLet ((zminJ x12 u4)) (fun x13 => zLet ((u4 - x13)) (fun x14 => zCm [97, 98, 99, 100, 101, 102] μ11 (F_Books_pass x13 (zVw [97, 98, 99, 100, 101, 102] μ11)) (zkV (fun μ15 => zLet (u6 + 1) (fun x17 => R u2 x14 x17 μ15))) zX0)))) zX0
set_option maxRecDepth 100000 in
theorem j_Ledger_patience_122 {R : Int → Int → Int → ZMem → Option ZRes} {K : Int → ZMem → Option ZRes} (c1 : Int) (c3 : Int) (hR : ∀ (v2 : Int) (v4 : Int) (v6 : Int) (μ : ZMem), AW cf_Ledger_patience S_Ledger.length S_Ledger S_Ledger 79 [(0, zR (some 0)), (1, zI c1), (2, zI v2), (3, zI c3), (4, zJ v4), (6, zI v6)] [] μ 0 0 (R v2 v4 v6 μ)) (hK : ∀ (k2 : Int) (μ : ZMem), AW cf_Ledger_patience S_Ledger.length S_Ledger S_Ledger 158 [(2, zI k2)] [] μ 0 0 (K k2 μ)) (u2 : Int) (u4 : Int) (u6 : Int) (μ : ZMem) : AW cf_Ledger_patience S_Ledger.length S_Ledger S_Ledger 122 [(0, zR (some 0)), (1, zI c1), (2, zI u2), (3, zI c3), (4, zJ u4), (6, zI u6)] [] μ 0 0 (J_Ledger_patience_122 R K c1 u2 c3 u4 u6 μ) := by
  unfold J_Ledger_patience_122
  refine AW.aload_n (i := 0) (a := 0) (by decide +kernel) rfl (?_ : AW _ _ _ _ 123 _ _ _ _ _ _)
  refine AW.getR (idx := 38) (ci := 8) (k := 4) (r := 0) (by decide +kernel) rfl rfl rfl (?_ : AW _ _ _ _ 126 _ _ _ _ _ _)
  refine AW.callVm (g := cf_State_fullFee) (Sg := S_State2) (pl := [13, 14, 15, 16, 17, 18, 19, 20, 21, 22, 23, 24, 25, 26, 27, 28, 29, 30, 31]) (av := []) (b0 := 0) (ci := 5) (idx := 260) (n := 0) (st := []) (by decide +kernel) (fun l hl r hr => c_State_fullFee l hl  _ r hr) sb_49 rfl cal_State_fullFee rfl (zw4 zm_X8_260 zi_yX5_fullFee zs_yX5_fullFee zn_X5) rfl rfl ⟨by decide, by decide, by decide, by decide⟩ (Nat.le_of_ble_eq_true rfl) (Or.inl rfl) (fun v μ11 => AW.rJ (fun x12 => (?_ : AW _ _ _ _ 129 _ _ _ _ _ _)) v)
  refine AW.lload (i := 4) (a := u4) (by decide +kernel) rfl (?_ : AW _ _ _ _ 131 _ _ _ _ _ _)
  refine AW.minJ (idx := 263) (by decide +kernel) zm_X8_263 rfl (?_ : AW _ _ _ _ 134 _ _ _ _ _ _)
  refine AW.lstoreL (i := 7) (L' := fun x13 => [(7, zJ x13), (0, zR (some 0)), (1, zI c1), (2, zI u2), (3, zI c3), (4, zJ u4), (6, zI u6)]) (by decide +kernel) (by decide) (fun _ => rfl) (fun x13 => (?_ : AW _ _ _ _ 136 _ _ _ _ _ _))
  refine AW.lload (i := 4) (a := u4) (by decide +kernel) rfl (?_ : AW _ _ _ _ 138 _ _ _ _ _ _)
  refine AW.lload (i := 7) (a := x13) (by decide +kernel) rfl (?_ : AW _ _ _ _ 140 _ _ _ _ _ _)
  refine AW.lsub (by decide +kernel) (?_ : AW _ _ _ _ 141 _ _ _ _ _ _)
  refine AW.lstoreL (i := 4) (L' := fun x14 => [(4, zJ x14), (7, zJ x13), (0, zR (some 0)), (1, zI c1), (2, zI u2), (3, zI c3), (6, zI u6)]) (by decide +kernel) (by decide) (fun _ => rfl) (fun x14 => (?_ : AW _ _ _ _ 143 _ _ _ _ _ _))
  refine AW.aload_n (i := 0) (a := 0) (by decide +kernel) rfl (?_ : AW _ _ _ _ 144 _ _ _ _ _ _)
  refine AW.getR (idx := 55) (ci := 8) (k := 7) (r := 0) (by decide +kernel) rfl rfl rfl (?_ : AW _ _ _ _ 147 _ _ _ _ _ _)
  refine AW.lload (i := 7) (a := x13) (by decide +kernel) rfl (?_ : AW _ _ _ _ 149 _ _ _ _ _ _)
  refine AW.callVm (g := cf_Books_pass) (Sg := S_Books3) (pl := [97, 98, 99, 100, 101, 102]) (av := [zJ x13]) (b0 := 0) (ci := 0) (idx := 266) (n := 1) (st := []) (by decide +kernel) (fun l hl r hr => c_Books_pass l hl x13 _ r hr) sb_64 rfl cal_Books_pass rfl (zw4 zm_X8_266 zi_yX0_pass zs_yX0_pass zn_X0) rfl rfl ⟨by decide, by decide, by decide, by decide⟩ (Nat.le_of_ble_eq_true rfl) (Or.inl rfl) (fun v μ15 => AW.rV (?_ : AW _ _ _ _ 152 _ _ _ _ _ _) v)
  refine AW.iincL (i := 6) (n := 1) (a := u6) (L' := fun x17 => [(6, zI x17), (4, zJ x14), (7, zJ x13), (0, zR (some 0)), (1, zI c1), (2, zI u2), (3, zI c3)]) (by decide +kernel) rfl (by decide) (fun _ => rfl) (fun x17 => (?_ : AW _ _ _ _ 155 _ _ _ _ _ _))
  refine AW.goto (off := -76) (tgt := 79) (by decide +kernel) (by decide) ?_
  refine AW.sub (L' := [(0, zR (some 0)), (1, zI c1), (2, zI u2), (3, zI c3), (4, zJ x14), (6, zI x17)]) [3, 4, 5, 6, 1, 0] rfl ?_
  exact hR u2 x14 x17 μ15
def L_Ledger_patience_79 (c1 : Int) (c3 : Int) (K : Int → ZMem → Option ZRes) : Nat → Int → Int → Int → ZMem → Option ZRes
  | 0, _, _, _, _ => none
  | n + 1, v2, v4, v6, μ => if w32 c3 < w32 v6 then (K v2 μ) else (zCm [103, 104, 105, 106, 107, 108, 97, 98, 99, 100, 101, 102] μ (F_Books_copyFrom  (zVw [103, 104, 105, 106, 107, 108, 97, 98, 99, 100, 101, 102] μ)) (zkV (fun μ6 => zCm [103, 104, 105, 106, 107, 108] μ6 (F_Books_sellAll  (zVw [103, 104, 105, 106, 107, 108] μ6)) (zkJ (fun x9 μ8 => zRd μ8 107 4 0 (fun x10 => if w64 x10 < w64 (w32 c1) then (J_Ledger_patience_122 (fun v2 v4 v6 μ => L_Ledger_patience_79 c1 c3 K n v2 v4 v6 μ) K c1 v2 c3 v4 v6 μ8) else (J_Ledger_patience_122 (fun v2 v4 v6 μ => L_Ledger_patience_79 c1 c3 K n v2 v4 v6 μ) K c1 v6 c3 v4 v6 μ8)))) zX0)) zX0)
set_option maxRecDepth 100000 in
theorem l_Ledger_patience_79 {c1 : Int} {c3 : Int} {K : Int → ZMem → Option ZRes} (hK : ∀ (k2 : Int) (μ : ZMem), AW cf_Ledger_patience S_Ledger.length S_Ledger S_Ledger 158 [(2, zI k2)] [] μ 0 0 (K k2 μ)) : ∀ (n : Nat) (v2 : Int) (v4 : Int) (v6 : Int) (μ : ZMem), AW cf_Ledger_patience S_Ledger.length S_Ledger S_Ledger 79 [(0, zR (some 0)), (1, zI c1), (2, zI v2), (3, zI c3), (4, zJ v4), (6, zI v6)] [] μ 0 0 (L_Ledger_patience_79 c1 c3 K n v2 v4 v6 μ) := by
  intro n
  induction n with
  | zero => intro v2 v4 v6 μ; exact AW.noth
  | succ n ih =>
    intro v2 v4 v6 μ
    rw [L_Ledger_patience_79]
    refine AW.iload (i := 6) (a := v6) (by decide +kernel) rfl (?_ : AW _ _ _ _ 81 _ _ _ _ _ _)
    refine AW.iload_n (i := 3) (a := c3) (by decide +kernel) rfl (?_ : AW _ _ _ _ 82 _ _ _ _ _ _)
    refine AW.icmp_gt (off := 76) (tgt := 158) (by decide +kernel) (by decide) (fun _ => ?_) (fun _ => ?_)
    · refine AW.sub (L' := [(2, zI v2)]) [2] rfl ?_
      exact hK v2 μ
    · refine AW.aload_n (i := 0) (a := 0) (by decide +kernel) rfl (?_ : AW _ _ _ _ 86 _ _ _ _ _ _)
      refine AW.getR (idx := 59) (ci := 8) (k := 8) (r := 0) (by decide +kernel) rfl rfl rfl (?_ : AW _ _ _ _ 89 _ _ _ _ _ _)
      refine AW.aload_n (i := 0) (a := 0) (by decide +kernel) rfl (?_ : AW _ _ _ _ 90 _ _ _ _ _ _)
      refine AW.getR (idx := 55) (ci := 8) (k := 7) (r := 0) (by decide +kernel) rfl rfl rfl (?_ : AW _ _ _ _ 93 _ _ _ _ _ _)
      refine AW.callVm (g := cf_Books_copyFrom) (Sg := S_Books2) (pl := [103, 104, 105, 106, 107, 108, 97, 98, 99, 100, 101, 102]) (av := [zR (some 6)]) (b0 := 0) (ci := 0) (idx := 197) (n := 1) (st := []) (by decide +kernel) (fun l hl r hr => c_Books_copyFrom l hl  _ r hr) sb_65 rfl cal_Books_copyFrom rfl (zw4 zm_X8_197 zi_yX0_copyFrom zs_yX0_copyFrom zn_X0) rfl rfl ⟨by decide, by decide, by decide, by decide⟩ (Nat.le_of_ble_eq_true rfl) (Or.inl rfl) (fun v μ6 => AW.rV (?_ : AW _ _ _ _ 96 _ _ _ _ _ _) v)
      refine AW.aload_n (i := 0) (a := 0) (by decide +kernel) rfl (?_ : AW _ _ _ _ 97 _ _ _ _ _ _)
      refine AW.getR (idx := 59) (ci := 8) (k := 8) (r := 0) (by decide +kernel) rfl rfl rfl (?_ : AW _ _ _ _ 100 _ _ _ _ _ _)
      refine AW.callVm (g := cf_Books_sellAll) (Sg := S_Books3) (pl := [103, 104, 105, 106, 107, 108]) (av := []) (b0 := 0) (ci := 0) (idx := 200) (n := 0) (st := []) (by decide +kernel) (fun l hl r hr => c_Books_sellAll l hl  _ r hr) sb_54 rfl cal_Books_sellAll rfl (zw4 zm_X8_200 zi_yX0_sellAll zs_yX0_sellAll zn_X0) rfl rfl ⟨by decide, by decide, by decide, by decide⟩ (Nat.le_of_ble_eq_true rfl) (Or.inl rfl) (fun v μ8 => AW.rJ (fun x9 => (?_ : AW _ _ _ _ 103 _ _ _ _ _ _)) v)
      refine AW.pop2 (by decide +kernel) rfl (?_ : AW _ _ _ _ 104 _ _ _ _ _ _)
      refine AW.aload_n (i := 0) (a := 0) (by decide +kernel) rfl (?_ : AW _ _ _ _ 105 _ _ _ _ _ _)
      refine AW.getR (idx := 59) (ci := 8) (k := 8) (r := 0) (by decide +kernel) rfl rfl rfl (?_ : AW _ _ _ _ 108 _ _ _ _ _ _)
      refine AW.getR (idx := 161) (ci := 0) (k := 3) (r := 103) (by decide +kernel) rfl rfl rfl (?_ : AW _ _ _ _ 111 _ _ _ _ _ _)
      refine AW.iconst (n := 0) (by decide +kernel) (?_ : AW _ _ _ _ 112 _ _ _ _ _ _)
      refine AW.lald (r := 107) (by decide +kernel) rfl (fun x10 => (?_ : AW _ _ _ _ 113 _ _ _ _ _ _))
      refine AW.iload_n (i := 1) (a := c1) (by decide +kernel) rfl (?_ : AW _ _ _ _ 114 _ _ _ _ _ _)
      refine AW.i2l (by decide +kernel) (?_ : AW _ _ _ _ 115 _ _ _ _ _ _)
      refine AW.lcmp_lt (off := 6) (tgt := 122) (by decide +kernel) (by decide +kernel) (by decide) (fun _ => ?_) (fun _ => ?_)
      · exact j_Ledger_patience_122 c1 c3 ih hK v2 v4 v6 μ8
      · refine AW.iload (i := 6) (a := v6) (by decide +kernel) rfl (?_ : AW _ _ _ _ 121 _ _ _ _ _ _)
        refine AW.istore_n' (i := 2) (L' := [(2, zI v6), (0, zR (some 0)), (1, zI c1), (3, zI c3), (4, zJ v4), (6, zI v6)]) (by decide +kernel) (by decide) rfl (?_ : AW _ _ _ _ 122 _ _ _ _ _ _)
        refine AW.sub (L' := [(0, zR (some 0)), (1, zI c1), (2, zI v6), (3, zI c3), (4, zJ v4), (6, zI v6)]) [1, 2, 0, 3, 4, 5] rfl ?_
        exact j_Ledger_patience_122 c1 c3 ih hK v6 v4 v6 μ8
def F_Ledger_patience (a1 : Int) (μ : ZMem) : Option ZRes := if w32 a1 < 0 then (J_Ledger_patience_10 μ) else (if w32 a1 ≤ w32 99999 then (zLet ((zminI 60 (200 - (μ 14 6)))) (fun x1 => zCm [20, 21, 22, 23, 24, 25, 26, 27, 28] μ (F_Register_allOf_2  (zVw [20, 21, 22, 23, 24, 25, 26, 27, 28] μ)) (zkJ (fun x3 μ2 => zCm [97, 98, 99, 100, 101, 102, 14, 15, 16, 17, 18, 19] μ2 (F_Books_copyFrom  (zVw [97, 98, 99, 100, 101, 102, 14, 15, 16, 17, 18, 19] μ2)) (zkV (fun μ4 => L_Ledger_patience_79 a1 x1 (fun k19 μ18 => some (.inr (some (zI k19)), μ18)) zN (-1) x3 0 μ4)) zX0)) zX0)) else (J_Ledger_patience_10 μ))
set_option maxRecDepth 100000 in
theorem w_Ledger_patience (a1 : Int) (μ : ZMem) : AW cf_Ledger_patience S_Ledger.length S_Ledger S_Ledger 0 [(0, zR (some 0)), (1, zI a1)] [] μ 0 0 (F_Ledger_patience a1 μ) := by
  unfold F_Ledger_patience
  refine AW.iload_n (i := 1) (a := a1) (by decide +kernel) rfl (?_ : AW _ _ _ _ 1 _ _ _ _ _ _)
  refine AW.if_lt (off := 9) (tgt := 10) (by decide +kernel) (by decide) (fun _ => ?_) (fun _ => ?_)
  · refine AW.sub (L' := []) [] rfl ?_
    exact j_Ledger_patience_10 μ
  · refine AW.iload_n (i := 1) (a := a1) (by decide +kernel) rfl (?_ : AW _ _ _ _ 5 _ _ _ _ _ _)
    refine AW.ldci (idx := 174) (v := 99999) (by decide +kernel) zk_X8_174 (?_ : AW _ _ _ _ 7 _ _ _ _ _ _)
    refine AW.icmp_le (off := 11) (tgt := 18) (by decide +kernel) (by decide) (fun _ => ?_) (fun _ => ?_)
    · refine AW.iconst (n := -1) (by decide +kernel) (?_ : AW _ _ _ _ 19 _ _ _ _ _ _)
      refine AW.istore_n' (i := 2) (L' := [(2, zI (-1)), (0, zR (some 0)), (1, zI a1)]) (by decide +kernel) (by decide) rfl (?_ : AW _ _ _ _ 20 _ _ _ _ _ _)
      refine AW.bipush (n := 60) (by decide +kernel) (by decide +kernel) (?_ : AW _ _ _ _ 22 _ _ _ _ _ _)
      refine AW.sipush (n := 200) (by decide +kernel) (by decide +kernel) (?_ : AW _ _ _ _ 25 _ _ _ _ _ _)
      refine AW.aload_n (i := 0) (a := 0) (by decide +kernel) rfl (?_ : AW _ _ _ _ 26 _ _ _ _ _ _)
      refine AW.getR (idx := 38) (ci := 8) (k := 4) (r := 0) (by decide +kernel) rfl rfl rfl (?_ : AW _ _ _ _ 29 _ _ _ _ _ _)
      refine AW.getR (idx := 152) (ci := 5) (k := 0) (r := 13) (by decide +kernel) rfl rfl rfl (?_ : AW _ _ _ _ 32 _ _ _ _ _ _)
      refine AW.getI (idx := 244) (ci := 0) (k := 6) (r := 14) (by decide +kernel) rfl rfl rfl (?_ : AW _ _ _ _ 35 _ _ _ _ _ _)
      refine AW.isub (by decide +kernel) (?_ : AW _ _ _ _ 36 _ _ _ _ _ _)
      refine AW.minI (idx := 272) (by decide +kernel) zm_X8_272 rfl (?_ : AW _ _ _ _ 39 _ _ _ _ _ _)
      refine AW.istoreL_n (i := 3) (L' := fun x1 => [(3, zI x1), (2, zI (-1)), (0, zR (some 0)), (1, zI a1)]) (by decide +kernel) (by decide) (fun _ => rfl) (fun x1 => (?_ : AW _ _ _ _ 40 _ _ _ _ _ _))
      refine AW.aload_n (i := 0) (a := 0) (by decide +kernel) rfl (?_ : AW _ _ _ _ 41 _ _ _ _ _ _)
      refine AW.getR (idx := 38) (ci := 8) (k := 4) (r := 0) (by decide +kernel) rfl rfl rfl (?_ : AW _ _ _ _ 44 _ _ _ _ _ _)
      refine AW.getR (idx := 120) (ci := 5) (k := 1) (r := 13) (by decide +kernel) rfl rfl rfl (?_ : AW _ _ _ _ 47 _ _ _ _ _ _)
      refine AW.aload_n (i := 0) (a := 0) (by decide +kernel) rfl (?_ : AW _ _ _ _ 48 _ _ _ _ _ _)
      refine AW.getR (idx := 38) (ci := 8) (k := 4) (r := 0) (by decide +kernel) rfl rfl rfl (?_ : AW _ _ _ _ 51 _ _ _ _ _ _)
      refine AW.getR (idx := 120) (ci := 5) (k := 1) (r := 13) (by decide +kernel) rfl rfl rfl (?_ : AW _ _ _ _ 54 _ _ _ _ _ _)
      refine AW.getR (idx := 129) (ci := 4) (k := 1) (r := 20) (by decide +kernel) rfl rfl rfl (?_ : AW _ _ _ _ 57 _ _ _ _ _ _)
      refine AW.callVm (g := cf_Register_allOf_2) (Sg := S_Register2) (pl := [20, 21, 22, 23, 24, 25, 26, 27, 28]) (av := [zR (some 2)]) (b0 := 0) (ci := 4) (idx := 240) (n := 1) (st := []) (by decide +kernel) (fun l hl r hr => c_Register_allOf_2 l hl  _ r hr) sb_51 rfl cal_Register_allOf_2 rfl (zw4 zm_X8_240 zi_yX4_allOf zs_yX4_allOf zn_X4) rfl rfl ⟨by decide, by decide, by decide, by decide⟩ (Nat.le_of_ble_eq_true rfl) (Or.inl rfl) (fun v μ2 => AW.rJ (fun x3 => (?_ : AW _ _ _ _ 60 _ _ _ _ _ _)) v)
      refine AW.lstore' (i := 4) (L' := [(4, zJ x3), (3, zI x1), (2, zI (-1)), (0, zR (some 0)), (1, zI a1)]) (by decide +kernel) (by decide) rfl (?_ : AW _ _ _ _ 62 _ _ _ _ _ _)
      refine AW.aload_n (i := 0) (a := 0) (by decide +kernel) rfl (?_ : AW _ _ _ _ 63 _ _ _ _ _ _)
      refine AW.getR (idx := 55) (ci := 8) (k := 7) (r := 0) (by decide +kernel) rfl rfl rfl (?_ : AW _ _ _ _ 66 _ _ _ _ _ _)
      refine AW.aload_n (i := 0) (a := 0) (by decide +kernel) rfl (?_ : AW _ _ _ _ 67 _ _ _ _ _ _)
      refine AW.getR (idx := 38) (ci := 8) (k := 4) (r := 0) (by decide +kernel) rfl rfl rfl (?_ : AW _ _ _ _ 70 _ _ _ _ _ _)
      refine AW.getR (idx := 152) (ci := 5) (k := 0) (r := 13) (by decide +kernel) rfl rfl rfl (?_ : AW _ _ _ _ 73 _ _ _ _ _ _)
      refine AW.callVm (g := cf_Books_copyFrom) (Sg := S_Books2) (pl := [97, 98, 99, 100, 101, 102, 14, 15, 16, 17, 18, 19]) (av := [zR (some 6)]) (b0 := 0) (ci := 0) (idx := 197) (n := 1) (st := []) (by decide +kernel) (fun l hl r hr => c_Books_copyFrom l hl  _ r hr) sb_63 rfl cal_Books_copyFrom rfl (zw4 zm_X8_197 zi_yX0_copyFrom zs_yX0_copyFrom zn_X0) rfl rfl ⟨by decide, by decide, by decide, by decide⟩ (Nat.le_of_ble_eq_true rfl) (Or.inl rfl) (fun v μ4 => AW.rV (?_ : AW _ _ _ _ 76 _ _ _ _ _ _) v)
      refine AW.iconst (n := 0) (by decide +kernel) (?_ : AW _ _ _ _ 77 _ _ _ _ _ _)
      refine AW.istore' (i := 6) (L' := [(6, zI 0), (4, zJ x3), (3, zI x1), (2, zI (-1)), (0, zR (some 0)), (1, zI a1)]) (by decide +kernel) (by decide) rfl (?_ : AW _ _ _ _ 79 _ _ _ _ _ _)
      refine AW.sub (L' := [(0, zR (some 0)), (1, zI a1), (2, zI (-1)), (3, zI x1), (4, zJ x3), (6, zI 0)]) [4, 5, 3, 2, 1, 0] rfl ?_
      refine l_Ledger_patience_79 (fun k19 μ18 => ?_) zN _ _ _ _
      refine AW.iload_n (i := 2) (a := k19) (by decide +kernel) rfl (?_ : AW _ _ _ _ 159 _ _ _ _ _ _)
      exact AW.reti (by decide +kernel) rfl (by decide) (by decide)
    · refine AW.sub (L' := []) [] rfl ?_
      exact j_Ledger_patience_10 μ
theorem c_Ledger_patience (l : Launch) (hl : l.stackTraces = false) (a1 : Int) (μ : ZMem) (r : ZRes) (h : F_Ledger_patience a1 μ = some r) : ZC l cf_Ledger_patience S_Ledger S_Ledger [zR (some 0), zI a1] μ r := ZC.of hl (by decide +kernel) rfl rfl zft_X8_ok (Nat.le_of_ble_eq_true rfl) h (w_Ledger_patience a1 μ)
/-! WeirLedger.deals(I)I -/
def cf_Ledger_deals : ZCf := (yX8_deals, cX8_deals, 2, some .int, [], 10, 1, 6, zft_X8, none)
theorem cal_Ledger_deals : zCallee cf_Ledger_deals 1 := ⟨rfl, zc_yX8_deals, by decide, by decide, by decide +kernel⟩
theorem thr_Ledger_deals_63 : zThr cf_Ledger_deals 63 106 108 zEn "java/util/NoSuchElementException" := zThr_of ztw_NoSuchElementException (by decide +kernel) (by decide +kernel) (by decide +kernel) (by decide +kernel) rfl (by decide)
def F_Ledger_deals (a1 : Int) (μ : ZMem) : Option ZRes := if w32 a1 = 0 then (zCm [14, 15, 16, 17, 18, 19] μ (F_Books_extremeDeal 1 (zVw [14, 15, 16, 17, 18, 19] μ)) (zkI (fun x3 μ2 => some (.inr (some (zI x3)), μ2))) zX0) else (if w32 a1 = 1 then (zCm [14, 15, 16, 17, 18, 19] μ (F_Books_extremeDeal (-1) (zVw [14, 15, 16, 17, 18, 19] μ)) (zkI (fun x6 μ5 => some (.inr (some (zI x6)), μ5))) zX0) else (if w32 a1 = 2 then (zCm [14, 15, 16, 17, 18, 19] μ (F_Books_openDeals  (zVw [14, 15, 16, 17, 18, 19] μ)) (zkI (fun x9 μ8 => some (.inr (some (zI x9)), μ8))) zX0) else (some (.inl "java/util/NoSuchElementException", μ))))
set_option maxRecDepth 100000 in
theorem w_Ledger_deals (a1 : Int) (μ : ZMem) : AW cf_Ledger_deals S_Ledger.length S_Ledger S_Ledger 0 [(0, zR (some 0)), (1, zI a1)] [] μ 0 0 (F_Ledger_deals a1 μ) := by
  unfold F_Ledger_deals
  refine AW.iload_n (i := 1) (a := a1) (by decide +kernel) rfl (?_ : AW _ _ _ _ 1 _ _ _ _ _ _)
  refine AW.tswC (dflt := 62) (lo := 0) (hi := 2) (offs := #[27, 39, 51]) (len := 27) (k := 0) (off := 27) (tgt := 28) (by decide +kernel) (by decide) (by decide) rfl (by decide) (fun _ => ?_) (fun h1 => ?_)
  · refine AW.aload_n (i := 0) (a := 0) (by decide +kernel) rfl (?_ : AW _ _ _ _ 29 _ _ _ _ _ _)
    refine AW.getR (idx := 38) (ci := 8) (k := 4) (r := 0) (by decide +kernel) rfl rfl rfl (?_ : AW _ _ _ _ 32 _ _ _ _ _ _)
    refine AW.getR (idx := 152) (ci := 5) (k := 0) (r := 13) (by decide +kernel) rfl rfl rfl (?_ : AW _ _ _ _ 35 _ _ _ _ _ _)
    refine AW.iconst (n := 1) (by decide +kernel) (?_ : AW _ _ _ _ 36 _ _ _ _ _ _)
    refine AW.callVm (g := cf_Books_extremeDeal) (Sg := S_Books3) (pl := [14, 15, 16, 17, 18, 19]) (av := [zI 1]) (b0 := 0) (ci := 0) (idx := 275) (n := 1) (st := []) (by decide +kernel) (fun l hl r hr => c_Books_extremeDeal l hl 1 _ r hr) sb_52 rfl cal_Books_extremeDeal rfl (zw4 zm_X8_275 zi_yX0_extremeDeal zs_yX0_extremeDeal zn_X0) rfl rfl ⟨by decide, by decide, by decide, by decide⟩ (Nat.le_of_ble_eq_true rfl) (Or.inl rfl) (fun v μ2 => AW.rI (fun x3 => (?_ : AW _ _ _ _ 39 _ _ _ _ _ _)) v)
    exact AW.reti (by decide +kernel) rfl (by decide) (by decide)
  refine AW.tswC (dflt := 62) (lo := 0) (hi := 2) (offs := #[27, 39, 51]) (len := 27) (k := 1) (off := 39) (tgt := 40) (by decide +kernel) (by decide) (by decide) rfl (by decide) (fun _ => ?_) (fun h4 => ?_)
  · refine AW.aload_n (i := 0) (a := 0) (by decide +kernel) rfl (?_ : AW _ _ _ _ 41 _ _ _ _ _ _)
    refine AW.getR (idx := 38) (ci := 8) (k := 4) (r := 0) (by decide +kernel) rfl rfl rfl (?_ : AW _ _ _ _ 44 _ _ _ _ _ _)
    refine AW.getR (idx := 152) (ci := 5) (k := 0) (r := 13) (by decide +kernel) rfl rfl rfl (?_ : AW _ _ _ _ 47 _ _ _ _ _ _)
    refine AW.iconst (n := -1) (by decide +kernel) (?_ : AW _ _ _ _ 48 _ _ _ _ _ _)
    refine AW.callVm (g := cf_Books_extremeDeal) (Sg := S_Books3) (pl := [14, 15, 16, 17, 18, 19]) (av := [zI (-1)]) (b0 := 0) (ci := 0) (idx := 275) (n := 1) (st := []) (by decide +kernel) (fun l hl r hr => c_Books_extremeDeal l hl (-1) _ r hr) sb_52 rfl cal_Books_extremeDeal rfl (zw4 zm_X8_275 zi_yX0_extremeDeal zs_yX0_extremeDeal zn_X0) rfl rfl ⟨by decide, by decide, by decide, by decide⟩ (Nat.le_of_ble_eq_true rfl) (Or.inl rfl) (fun v μ5 => AW.rI (fun x6 => (?_ : AW _ _ _ _ 51 _ _ _ _ _ _)) v)
    exact AW.reti (by decide +kernel) rfl (by decide) (by decide)
  refine AW.tswC (dflt := 62) (lo := 0) (hi := 2) (offs := #[27, 39, 51]) (len := 27) (k := 2) (off := 51) (tgt := 52) (by decide +kernel) (by decide) (by decide) rfl (by decide) (fun _ => ?_) (fun h7 => ?_)
  · refine AW.aload_n (i := 0) (a := 0) (by decide +kernel) rfl (?_ : AW _ _ _ _ 53 _ _ _ _ _ _)
    refine AW.getR (idx := 38) (ci := 8) (k := 4) (r := 0) (by decide +kernel) rfl rfl rfl (?_ : AW _ _ _ _ 56 _ _ _ _ _ _)
    refine AW.getR (idx := 152) (ci := 5) (k := 0) (r := 13) (by decide +kernel) rfl rfl rfl (?_ : AW _ _ _ _ 59 _ _ _ _ _ _)
    refine AW.callVm (g := cf_Books_openDeals) (Sg := S_Books3) (pl := [14, 15, 16, 17, 18, 19]) (av := []) (b0 := 0) (ci := 0) (idx := 278) (n := 0) (st := []) (by decide +kernel) (fun l hl r hr => c_Books_openDeals l hl  _ r hr) sb_52 rfl cal_Books_openDeals rfl (zw4 zm_X8_278 zi_yX0_openDeals zs_yX0_openDeals zn_X0) rfl rfl ⟨by decide, by decide, by decide, by decide⟩ (Nat.le_of_ble_eq_true rfl) (Or.inl rfl) (fun v μ8 => AW.rI (fun x9 => (?_ : AW _ _ _ _ 62 _ _ _ _ _ _)) v)
    exact AW.reti (by decide +kernel) rfl (by decide) (by decide)
  refine AW.tswD (dflt := 62) (lo := 0) (hi := 2) (offs := #[27, 39, 51]) (len := 27) (tgt := 63) (by decide +kernel) (by omega) (by decide) ?_
  exact AW.throw thr_Ledger_deals_63 (by decide) (by decide) (by decide)
theorem c_Ledger_deals (l : Launch) (hl : l.stackTraces = false) (a1 : Int) (μ : ZMem) (r : ZRes) (h : F_Ledger_deals a1 μ = some r) : ZC l cf_Ledger_deals S_Ledger S_Ledger [zR (some 0), zI a1] μ r := ZC.of hl (by decide +kernel) rfl rfl zft_X8_ok (Nat.le_of_ble_eq_true rfl) h (w_Ledger_deals a1 μ)
theorem sb_66 : zSub S_Ledger [29, 30, 31] S_Trace := ⟨rfl, by decide +kernel, by decide +kernel, rfl⟩
/-! WeirLedger.curve(I)J -/
def cf_Ledger_curve : ZCf := (yX8_curve, cX8_curve, 5, some .long, [], 10, 1, 6, zft_X8, none)
theorem cal_Ledger_curve : zCallee cf_Ledger_curve 1 := ⟨rfl, zc_yX8_curve, by decide, by decide, by decide +kernel⟩
theorem thr_Ledger_curve_18 : zThr cf_Ledger_curve 18 83 85 zEn "java/lang/IllegalArgumentException" := zThr_of ztw_IllegalArgumentException (by decide +kernel) (by decide +kernel) (by decide +kernel) (by decide +kernel) rfl (by decide)
def J_Ledger_curve_18 (μ : ZMem) : Option ZRes := some (.inl "java/lang/IllegalArgumentException", μ)
set_option maxRecDepth 100000 in
theorem j_Ledger_curve_18 (μ : ZMem) : AW cf_Ledger_curve S_Ledger.length S_Ledger S_Ledger 18 [] [] μ 0 0 (J_Ledger_curve_18 μ) := by
  unfold J_Ledger_curve_18
  exact AW.throw thr_Ledger_curve_18 (by decide) (by decide) (by decide)
def L_Ledger_curve_31 (c1 : Int) (K : Int → ZMem → Option ZRes) : Nat → Int → Int → ZMem → Option ZRes
  | 0, _, _, _ => none
  | n + 1, v2, v4, μ => if w32 c1 < w32 v4 then (K v2 μ) else (zCm [29, 30, 31] μ (F_Trace_flow 6 v4 (zVw [29, 30, 31] μ)) (zkJ (fun x2 μ1 => zLet ((v2 + x2)) (fun x3 => zLet (v4 + 1) (fun x4 => L_Ledger_curve_31 c1 K n x3 x4 μ1)))) zX0)
set_option maxRecDepth 100000 in
theorem l_Ledger_curve_31 {c1 : Int} {K : Int → ZMem → Option ZRes} (hK : ∀ (k2 : Int) (μ : ZMem), AW cf_Ledger_curve S_Ledger.length S_Ledger S_Ledger 60 [(2, zJ k2)] [] μ 0 0 (K k2 μ)) : ∀ (n : Nat) (v2 : Int) (v4 : Int) (μ : ZMem), AW cf_Ledger_curve S_Ledger.length S_Ledger S_Ledger 31 [(0, zR (some 0)), (1, zI c1), (2, zJ v2), (4, zI v4)] [] μ 0 0 (L_Ledger_curve_31 c1 K n v2 v4 μ) := by
  intro n
  induction n with
  | zero => intro v2 v4 μ; exact AW.noth
  | succ n ih =>
    intro v2 v4 μ
    rw [L_Ledger_curve_31]
    refine AW.iload (i := 4) (a := v4) (by decide +kernel) rfl (?_ : AW _ _ _ _ 33 _ _ _ _ _ _)
    refine AW.iload_n (i := 1) (a := c1) (by decide +kernel) rfl (?_ : AW _ _ _ _ 34 _ _ _ _ _ _)
    refine AW.icmp_gt (off := 26) (tgt := 60) (by decide +kernel) (by decide) (fun _ => ?_) (fun _ => ?_)
    · refine AW.sub (L' := [(2, zJ v2)]) [2] rfl ?_
      exact hK v2 μ
    · refine AW.lload_n (i := 2) (a := v2) (by decide +kernel) rfl (?_ : AW _ _ _ _ 38 _ _ _ _ _ _)
      refine AW.aload_n (i := 0) (a := 0) (by decide +kernel) rfl (?_ : AW _ _ _ _ 39 _ _ _ _ _ _)
      refine AW.getR (idx := 38) (ci := 8) (k := 4) (r := 0) (by decide +kernel) rfl rfl rfl (?_ : AW _ _ _ _ 42 _ _ _ _ _ _)
      refine AW.getR (idx := 282) (ci := 5) (k := 3) (r := 13) (by decide +kernel) rfl rfl rfl (?_ : AW _ _ _ _ 45 _ _ _ _ _ _)
      refine AW.bipush (n := 6) (by decide +kernel) (by decide +kernel) (?_ : AW _ _ _ _ 47 _ _ _ _ _ _)
      refine AW.iload (i := 4) (a := v4) (by decide +kernel) rfl (?_ : AW _ _ _ _ 49 _ _ _ _ _ _)
      refine AW.callVm (g := cf_Trace_flow) (Sg := S_Trace) (pl := [29, 30, 31]) (av := [zI 6, zI v4]) (b0 := 0) (ci := 7) (idx := 286) (n := 2) (st := [zJ v2]) (by decide +kernel) (fun l hl r hr => c_Trace_flow l hl 6 v4 _ r hr) sb_66 rfl cal_Trace_flow rfl (zw4 zm_X8_286 zi_yX7_flow zs_yX7_flow zn_X7) rfl rfl ⟨by decide, by decide, by decide, by decide⟩ (Nat.le_of_ble_eq_true rfl) (Or.inl rfl) (fun v μ1 => AW.rJ (fun x2 => (?_ : AW _ _ _ _ 52 _ _ _ _ _ _)) v)
      refine AW.ladd (by decide +kernel) (?_ : AW _ _ _ _ 53 _ _ _ _ _ _)
      refine AW.lstoreL_n (i := 2) (L' := fun x3 => [(2, zJ x3), (0, zR (some 0)), (1, zI c1), (4, zI v4)]) (by decide +kernel) (by decide) (fun _ => rfl) (fun x3 => (?_ : AW _ _ _ _ 54 _ _ _ _ _ _))
      refine AW.iincL (i := 4) (n := 1) (a := v4) (L' := fun x4 => [(4, zI x4), (2, zJ x3), (0, zR (some 0)), (1, zI c1)]) (by decide +kernel) rfl (by decide) (fun _ => rfl) (fun x4 => (?_ : AW _ _ _ _ 57 _ _ _ _ _ _))
      refine AW.goto (off := -26) (tgt := 31) (by decide +kernel) (by decide) ?_
      refine AW.sub (L' := [(0, zR (some 0)), (1, zI c1), (2, zJ x3), (4, zI x4)]) [2, 3, 1, 0] rfl ?_
      exact ih x3 x4 μ1
def F_Ledger_curve (a1 : Int) (μ : ZMem) : Option ZRes := if w32 a1 < 0 then (J_Ledger_curve_18 μ) else (if w32 a1 ≤ w32 (μ 14 6) then (L_Ledger_curve_31 a1 (fun k6 μ5 => some (.inr (some (zJ k6)), μ5)) zN 0 0 μ) else (J_Ledger_curve_18 μ))
set_option maxRecDepth 100000 in
theorem w_Ledger_curve (a1 : Int) (μ : ZMem) : AW cf_Ledger_curve S_Ledger.length S_Ledger S_Ledger 0 [(0, zR (some 0)), (1, zI a1)] [] μ 0 0 (F_Ledger_curve a1 μ) := by
  unfold F_Ledger_curve
  refine AW.iload_n (i := 1) (a := a1) (by decide +kernel) rfl (?_ : AW _ _ _ _ 1 _ _ _ _ _ _)
  refine AW.if_lt (off := 17) (tgt := 18) (by decide +kernel) (by decide) (fun _ => ?_) (fun _ => ?_)
  · refine AW.sub (L' := []) [] rfl ?_
    exact j_Ledger_curve_18 μ
  · refine AW.iload_n (i := 1) (a := a1) (by decide +kernel) rfl (?_ : AW _ _ _ _ 5 _ _ _ _ _ _)
    refine AW.aload_n (i := 0) (a := 0) (by decide +kernel) rfl (?_ : AW _ _ _ _ 6 _ _ _ _ _ _)
    refine AW.getR (idx := 38) (ci := 8) (k := 4) (r := 0) (by decide +kernel) rfl rfl rfl (?_ : AW _ _ _ _ 9 _ _ _ _ _ _)
    refine AW.getR (idx := 152) (ci := 5) (k := 0) (r := 13) (by decide +kernel) rfl rfl rfl (?_ : AW _ _ _ _ 12 _ _ _ _ _ _)
    refine AW.getI (idx := 244) (ci := 0) (k := 6) (r := 14) (by decide +kernel) rfl rfl rfl (?_ : AW _ _ _ _ 15 _ _ _ _ _ _)
    refine AW.icmp_le (off := 11) (tgt := 26) (by decide +kernel) (by decide) (fun _ => ?_) (fun _ => ?_)
    · refine AW.lconst0 (by decide +kernel) (?_ : AW _ _ _ _ 27 _ _ _ _ _ _)
      refine AW.lstore_n' (i := 2) (L' := [(2, zJ 0), (0, zR (some 0)), (1, zI a1)]) (by decide +kernel) (by decide) rfl (?_ : AW _ _ _ _ 28 _ _ _ _ _ _)
      refine AW.iconst (n := 0) (by decide +kernel) (?_ : AW _ _ _ _ 29 _ _ _ _ _ _)
      refine AW.istore' (i := 4) (L' := [(4, zI 0), (2, zJ 0), (0, zR (some 0)), (1, zI a1)]) (by decide +kernel) (by decide) rfl (?_ : AW _ _ _ _ 31 _ _ _ _ _ _)
      refine AW.sub (L' := [(0, zR (some 0)), (1, zI a1), (2, zJ 0), (4, zI 0)]) [2, 3, 1, 0] rfl ?_
      refine l_Ledger_curve_31 (fun k6 μ5 => ?_) zN _ _ _
      refine AW.lload_n (i := 2) (a := k6) (by decide +kernel) rfl (?_ : AW _ _ _ _ 61 _ _ _ _ _ _)
      exact AW.retl (by decide +kernel) rfl (by decide) (by decide)
    · refine AW.sub (L' := []) [] rfl ?_
      exact j_Ledger_curve_18 μ
theorem c_Ledger_curve (l : Launch) (hl : l.stackTraces = false) (a1 : Int) (μ : ZMem) (r : ZRes) (h : F_Ledger_curve a1 μ = some r) : ZC l cf_Ledger_curve S_Ledger S_Ledger [zR (some 0), zI a1] μ r := ZC.of hl (by decide +kernel) rfl rfl zft_X8_ok (Nat.le_of_ble_eq_true rfl) h (w_Ledger_curve a1 μ)
/-! WeirLedger.curves(I)I -/
def cf_Ledger_curves : ZCf := (yX8_curves, cX8_curves, 9, some .int, [], 10, 1, 6, zft_X8, none)
theorem cal_Ledger_curves : zCallee cf_Ledger_curves 1 := ⟨rfl, zc_yX8_curves, by decide, by decide, by decide +kernel⟩
theorem thr_Ledger_curves_9 : zThr cf_Ledger_curves 9 106 108 zEn "java/util/NoSuchElementException" := zThr_of ztw_NoSuchElementException (by decide +kernel) (by decide +kernel) (by decide +kernel) (by decide +kernel) rfl (by decide)
def J_Ledger_curves_105 (R : Int → Int → Int → Int → Int → ZMem → Option ZRes) (K : Int → Int → ZMem → Option ZRes) (c1 : Int) (u2 : Int) (u4 : Int) (u6 : Int) (u7 : Int) (u8 : Int) (μ : ZMem) : Option ZRes := zLet (u8 + 1) (fun x4 => R u2 u4 u6 u7 x4 μ)
set_option maxRecDepth 100000 in
theorem j_Ledger_curves_105 {R : Int → Int → Int → Int → Int → ZMem → Option ZRes} {K : Int → Int → ZMem → Option ZRes} (c1 : Int) (hR : ∀ (v2 : Int) (v4 : Int) (v6 : Int) (v7 : Int) (v8 : Int) (μ : ZMem), AW cf_Ledger_curves S_Ledger.length S_Ledger S_Ledger 31 [(0, zR (some 0)), (1, zI c1), (2, zJ v2), (4, zJ v4), (6, zI v6), (7, zI v7), (8, zI v8)] [] μ 0 0 (R v2 v4 v6 v7 v8 μ)) (hK : ∀ (k6 : Int) (k7 : Int) (μ : ZMem), AW cf_Ledger_curves S_Ledger.length S_Ledger S_Ledger 111 [(1, zI c1), (6, zI k6), (7, zI k7)] [] μ 0 0 (K k6 k7 μ)) (u2 : Int) (u4 : Int) (u6 : Int) (u7 : Int) (u8 : Int) (μ : ZMem) : AW cf_Ledger_curves S_Ledger.length S_Ledger S_Ledger 105 [(0, zR (some 0)), (1, zI c1), (2, zJ u2), (4, zJ u4), (6, zI u6), (7, zI u7), (8, zI u8)] [] μ 0 0 (J_Ledger_curves_105 R K c1 u2 u4 u6 u7 u8 μ) := by
  unfold J_Ledger_curves_105
  refine AW.iincL (i := 8) (n := 1) (a := u8) (L' := fun x4 => [(8, zI x4), (0, zR (some 0)), (1, zI c1), (2, zJ u2), (4, zJ u4), (6, zI u6), (7, zI u7)]) (by decide +kernel) rfl (by decide) (fun _ => rfl) (fun x4 => (?_ : AW _ _ _ _ 108 _ _ _ _ _ _))
  refine AW.goto (off := -77) (tgt := 31) (by decide +kernel) (by decide) ?_
  refine AW.sub (L' := [(0, zR (some 0)), (1, zI c1), (2, zJ u2), (4, zJ u4), (6, zI u6), (7, zI u7), (8, zI x4)]) [1, 2, 3, 4, 5, 6, 0] rfl ?_
  exact hR u2 u4 u6 u7 x4 μ
def J_Ledger_curves_83 (R : Int → Int → Int → Int → Int → ZMem → Option ZRes) (K : Int → Int → ZMem → Option ZRes) (c1 : Int) (u2 : Int) (u4 : Int) (u6 : Int) (u7 : Int) (u8 : Int) (μ : ZMem) : Option ZRes := if w64 0 ≤ w64 u2 then (if w32 u7 = w32 (-1) then (J_Ledger_curves_105 R K c1 u2 u4 u6 u8 u8 μ) else (J_Ledger_curves_105 R K c1 u2 u4 u6 u7 u8 μ)) else (J_Ledger_curves_105 R K c1 u2 u4 u6 (-1) u8 μ)
set_option maxRecDepth 100000 in
theorem j_Ledger_curves_83 {R : Int → Int → Int → Int → Int → ZMem → Option ZRes} {K : Int → Int → ZMem → Option ZRes} (c1 : Int) (hR : ∀ (v2 : Int) (v4 : Int) (v6 : Int) (v7 : Int) (v8 : Int) (μ : ZMem), AW cf_Ledger_curves S_Ledger.length S_Ledger S_Ledger 31 [(0, zR (some 0)), (1, zI c1), (2, zJ v2), (4, zJ v4), (6, zI v6), (7, zI v7), (8, zI v8)] [] μ 0 0 (R v2 v4 v6 v7 v8 μ)) (hK : ∀ (k6 : Int) (k7 : Int) (μ : ZMem), AW cf_Ledger_curves S_Ledger.length S_Ledger S_Ledger 111 [(1, zI c1), (6, zI k6), (7, zI k7)] [] μ 0 0 (K k6 k7 μ)) (u2 : Int) (u4 : Int) (u6 : Int) (u7 : Int) (u8 : Int) (μ : ZMem) : AW cf_Ledger_curves S_Ledger.length S_Ledger S_Ledger 83 [(0, zR (some 0)), (1, zI c1), (2, zJ u2), (4, zJ u4), (6, zI u6), (7, zI u7), (8, zI u8)] [] μ 0 0 (J_Ledger_curves_83 R K c1 u2 u4 u6 u7 u8 μ) := by
  unfold J_Ledger_curves_83
  refine AW.lload_n (i := 2) (a := u2) (by decide +kernel) rfl (?_ : AW _ _ _ _ 84 _ _ _ _ _ _)
  refine AW.lconst0 (by decide +kernel) (?_ : AW _ _ _ _ 85 _ _ _ _ _ _)
  refine AW.lcmp_ge (off := 9) (tgt := 95) (by decide +kernel) (by decide +kernel) (by decide) (fun _ => ?_) (fun _ => ?_)
  · refine AW.iload (i := 7) (a := u7) (by decide +kernel) rfl (?_ : AW _ _ _ _ 97 _ _ _ _ _ _)
    refine AW.iconst (n := -1) (by decide +kernel) (?_ : AW _ _ _ _ 98 _ _ _ _ _ _)
    refine AW.icmp_ne (off := 7) (tgt := 105) (by decide +kernel) (by decide) (fun _ => ?_) (fun _ => ?_)
    · refine AW.iload (i := 8) (a := u8) (by decide +kernel) rfl (?_ : AW _ _ _ _ 103 _ _ _ _ _ _)
      refine AW.istore' (i := 7) (L' := [(7, zI u8), (0, zR (some 0)), (1, zI c1), (2, zJ u2), (4, zJ u4), (6, zI u6), (8, zI u8)]) (by decide +kernel) (by decide) rfl (?_ : AW _ _ _ _ 105 _ _ _ _ _ _)
      refine AW.sub (L' := [(0, zR (some 0)), (1, zI c1), (2, zJ u2), (4, zJ u4), (6, zI u6), (7, zI u8), (8, zI u8)]) [1, 2, 3, 4, 5, 0, 6] rfl ?_
      exact j_Ledger_curves_105 c1 hR hK u2 u4 u6 u8 u8 μ
    · exact j_Ledger_curves_105 c1 hR hK u2 u4 u6 u7 u8 μ
  · refine AW.iconst (n := -1) (by decide +kernel) (?_ : AW _ _ _ _ 90 _ _ _ _ _ _)
    refine AW.istore' (i := 7) (L' := [(7, zI (-1)), (0, zR (some 0)), (1, zI c1), (2, zJ u2), (4, zJ u4), (6, zI u6), (8, zI u8)]) (by decide +kernel) (by decide) rfl (?_ : AW _ _ _ _ 92 _ _ _ _ _ _)
    refine AW.goto (off := 13) (tgt := 105) (by decide +kernel) (by decide) ?_
    refine AW.sub (L' := [(0, zR (some 0)), (1, zI c1), (2, zJ u2), (4, zJ u4), (6, zI u6), (7, zI (-1)), (8, zI u8)]) [1, 2, 3, 4, 5, 0, 6] rfl ?_
    exact j_Ledger_curves_105 c1 hR hK u2 u4 u6 (-1) u8 μ
def J_Ledger_curves_76 (R : Int → Int → Int → Int → Int → ZMem → Option ZRes) (K : Int → Int → ZMem → Option ZRes) (c1 : Int) (u2 : Int) (u7 : Int) (u8 : Int) (μ : ZMem) : Option ZRes := J_Ledger_curves_83 R K c1 u2 u2 u8 u7 u8 μ
set_option maxRecDepth 100000 in
theorem j_Ledger_curves_76 {R : Int → Int → Int → Int → Int → ZMem → Option ZRes} {K : Int → Int → ZMem → Option ZRes} (c1 : Int) (hR : ∀ (v2 : Int) (v4 : Int) (v6 : Int) (v7 : Int) (v8 : Int) (μ : ZMem), AW cf_Ledger_curves S_Ledger.length S_Ledger S_Ledger 31 [(0, zR (some 0)), (1, zI c1), (2, zJ v2), (4, zJ v4), (6, zI v6), (7, zI v7), (8, zI v8)] [] μ 0 0 (R v2 v4 v6 v7 v8 μ)) (hK : ∀ (k6 : Int) (k7 : Int) (μ : ZMem), AW cf_Ledger_curves S_Ledger.length S_Ledger S_Ledger 111 [(1, zI c1), (6, zI k6), (7, zI k7)] [] μ 0 0 (K k6 k7 μ)) (u2 : Int) (u7 : Int) (u8 : Int) (μ : ZMem) : AW cf_Ledger_curves S_Ledger.length S_Ledger S_Ledger 76 [(0, zR (some 0)), (1, zI c1), (2, zJ u2), (7, zI u7), (8, zI u8)] [] μ 0 0 (J_Ledger_curves_76 R K c1 u2 u7 u8 μ) := by
  unfold J_Ledger_curves_76
  refine AW.iload (i := 8) (a := u8) (by decide +kernel) rfl (?_ : AW _ _ _ _ 78 _ _ _ _ _ _)
  refine AW.istore' (i := 6) (L' := [(6, zI u8), (0, zR (some 0)), (1, zI c1), (2, zJ u2), (7, zI u7), (8, zI u8)]) (by decide +kernel) (by decide) rfl (?_ : AW _ _ _ _ 80 _ _ _ _ _ _)
  refine AW.lload_n (i := 2) (a := u2) (by decide +kernel) rfl (?_ : AW _ _ _ _ 81 _ _ _ _ _ _)
  refine AW.lstore' (i := 4) (L' := [(4, zJ u2), (6, zI u8), (0, zR (some 0)), (1, zI c1), (2, zJ u2), (7, zI u7), (8, zI u8)]) (by decide +kernel) (by decide) rfl (?_ : AW _ _ _ _ 83 _ _ _ _ _ _)
  refine AW.sub (L' := [(0, zR (some 0)), (1, zI c1), (2, zJ u2), (4, zJ u2), (6, zI u8), (7, zI u7), (8, zI u8)]) [2, 3, 4, 0, 1, 5, 6] rfl ?_
  exact j_Ledger_curves_83 c1 hR hK u2 u2 u8 u7 u8 μ
def L_Ledger_curves_31 (c1 : Int) (K : Int → Int → ZMem → Option ZRes) : Nat → Int → Int → Int → Int → Int → ZMem → Option ZRes
  | 0, _, _, _, _, _, _ => none
  | n + 1, v2, v4, v6, v7, v8, μ => if w32 (μ 14 6) < w32 v8 then (K v6 v7 μ) else (zCm [29, 30, 31] μ (F_Trace_flow 6 v8 (zVw [29, 30, 31] μ)) (zkJ (fun x2 μ1 => zLet ((v2 + x2)) (fun x3 => if w32 v6 = w32 (-1) then (J_Ledger_curves_76 (fun v2 v4 v6 v7 v8 μ => L_Ledger_curves_31 c1 K n v2 v4 v6 v7 v8 μ) K c1 x3 v7 v8 μ1) else (if w64 v4 ≤ w64 x3 then (J_Ledger_curves_83 (fun v2 v4 v6 v7 v8 μ => L_Ledger_curves_31 c1 K n v2 v4 v6 v7 v8 μ) K c1 x3 v4 v6 v7 v8 μ1) else (J_Ledger_curves_76 (fun v2 v4 v6 v7 v8 μ => L_Ledger_curves_31 c1 K n v2 v4 v6 v7 v8 μ) K c1 x3 v7 v8 μ1))))) zX0)
set_option maxRecDepth 100000 in
theorem l_Ledger_curves_31 {c1 : Int} {K : Int → Int → ZMem → Option ZRes} (hK : ∀ (k6 : Int) (k7 : Int) (μ : ZMem), AW cf_Ledger_curves S_Ledger.length S_Ledger S_Ledger 111 [(1, zI c1), (6, zI k6), (7, zI k7)] [] μ 0 0 (K k6 k7 μ)) : ∀ (n : Nat) (v2 : Int) (v4 : Int) (v6 : Int) (v7 : Int) (v8 : Int) (μ : ZMem), AW cf_Ledger_curves S_Ledger.length S_Ledger S_Ledger 31 [(0, zR (some 0)), (1, zI c1), (2, zJ v2), (4, zJ v4), (6, zI v6), (7, zI v7), (8, zI v8)] [] μ 0 0 (L_Ledger_curves_31 c1 K n v2 v4 v6 v7 v8 μ) := by
  intro n
  induction n with
  | zero => intro v2 v4 v6 v7 v8 μ; exact AW.noth
  | succ n ih =>
    intro v2 v4 v6 v7 v8 μ
    rw [L_Ledger_curves_31]
    refine AW.iload (i := 8) (a := v8) (by decide +kernel) rfl (?_ : AW _ _ _ _ 33 _ _ _ _ _ _)
    refine AW.aload_n (i := 0) (a := 0) (by decide +kernel) rfl (?_ : AW _ _ _ _ 34 _ _ _ _ _ _)
    refine AW.getR (idx := 38) (ci := 8) (k := 4) (r := 0) (by decide +kernel) rfl rfl rfl (?_ : AW _ _ _ _ 37 _ _ _ _ _ _)
    refine AW.getR (idx := 152) (ci := 5) (k := 0) (r := 13) (by decide +kernel) rfl rfl rfl (?_ : AW _ _ _ _ 40 _ _ _ _ _ _)
    refine AW.getI (idx := 244) (ci := 0) (k := 6) (r := 14) (by decide +kernel) rfl rfl rfl (?_ : AW _ _ _ _ 43 _ _ _ _ _ _)
    refine AW.icmp_gt (off := 68) (tgt := 111) (by decide +kernel) (by decide) (fun _ => ?_) (fun _ => ?_)
    · refine AW.sub (L' := [(1, zI c1), (6, zI v6), (7, zI v7)]) [1, 4, 5] rfl ?_
      exact hK v6 v7 μ
    · refine AW.lload_n (i := 2) (a := v2) (by decide +kernel) rfl (?_ : AW _ _ _ _ 47 _ _ _ _ _ _)
      refine AW.aload_n (i := 0) (a := 0) (by decide +kernel) rfl (?_ : AW _ _ _ _ 48 _ _ _ _ _ _)
      refine AW.getR (idx := 38) (ci := 8) (k := 4) (r := 0) (by decide +kernel) rfl rfl rfl (?_ : AW _ _ _ _ 51 _ _ _ _ _ _)
      refine AW.getR (idx := 282) (ci := 5) (k := 3) (r := 13) (by decide +kernel) rfl rfl rfl (?_ : AW _ _ _ _ 54 _ _ _ _ _ _)
      refine AW.bipush (n := 6) (by decide +kernel) (by decide +kernel) (?_ : AW _ _ _ _ 56 _ _ _ _ _ _)
      refine AW.iload (i := 8) (a := v8) (by decide +kernel) rfl (?_ : AW _ _ _ _ 58 _ _ _ _ _ _)
      refine AW.callVm (g := cf_Trace_flow) (Sg := S_Trace) (pl := [29, 30, 31]) (av := [zI 6, zI v8]) (b0 := 0) (ci := 7) (idx := 286) (n := 2) (st := [zJ v2]) (by decide +kernel) (fun l hl r hr => c_Trace_flow l hl 6 v8 _ r hr) sb_66 rfl cal_Trace_flow rfl (zw4 zm_X8_286 zi_yX7_flow zs_yX7_flow zn_X7) rfl rfl ⟨by decide, by decide, by decide, by decide⟩ (Nat.le_of_ble_eq_true rfl) (Or.inl rfl) (fun v μ1 => AW.rJ (fun x2 => (?_ : AW _ _ _ _ 61 _ _ _ _ _ _)) v)
      refine AW.ladd (by decide +kernel) (?_ : AW _ _ _ _ 62 _ _ _ _ _ _)
      refine AW.lstoreL_n (i := 2) (L' := fun x3 => [(2, zJ x3), (0, zR (some 0)), (1, zI c1), (4, zJ v4), (6, zI v6), (7, zI v7), (8, zI v8)]) (by decide +kernel) (by decide) (fun _ => rfl) (fun x3 => (?_ : AW _ _ _ _ 63 _ _ _ _ _ _))
      refine AW.iload (i := 6) (a := v6) (by decide +kernel) rfl (?_ : AW _ _ _ _ 65 _ _ _ _ _ _)
      refine AW.iconst (n := -1) (by decide +kernel) (?_ : AW _ _ _ _ 66 _ _ _ _ _ _)
      refine AW.icmp_eq (off := 10) (tgt := 76) (by decide +kernel) (by decide) (fun _ => ?_) (fun _ => ?_)
      · refine AW.sub (L' := [(0, zR (some 0)), (1, zI c1), (2, zJ x3), (7, zI v7), (8, zI v8)]) [1, 2, 0, 5, 6] rfl ?_
        exact j_Ledger_curves_76 c1 ih hK x3 v7 v8 μ1
      · refine AW.lload_n (i := 2) (a := x3) (by decide +kernel) rfl (?_ : AW _ _ _ _ 70 _ _ _ _ _ _)
        refine AW.lload (i := 4) (a := v4) (by decide +kernel) rfl (?_ : AW _ _ _ _ 72 _ _ _ _ _ _)
        refine AW.lcmp_ge (off := 10) (tgt := 83) (by decide +kernel) (by decide +kernel) (by decide) (fun _ => ?_) (fun _ => ?_)
        · refine AW.sub (L' := [(0, zR (some 0)), (1, zI c1), (2, zJ x3), (4, zJ v4), (6, zI v6), (7, zI v7), (8, zI v8)]) [1, 2, 0, 3, 4, 5, 6] rfl ?_
          exact j_Ledger_curves_83 c1 ih hK x3 v4 v6 v7 v8 μ1
        · refine AW.sub (L' := [(0, zR (some 0)), (1, zI c1), (2, zJ x3), (7, zI v7), (8, zI v8)]) [1, 2, 0, 5, 6] rfl ?_
          exact j_Ledger_curves_76 c1 ih hK x3 v7 v8 μ1
def J_Ledger_curves_17 (a1 : Int) (μ : ZMem) : Option ZRes := L_Ledger_curves_31 a1 (fun k6 k7 μ5 => if w32 a1 = 0 then (some (.inr (some (zI k6)), μ5)) else (some (.inr (some (zI k7)), μ5))) zN 0 0 (-1) (-1) 0 μ
set_option maxRecDepth 100000 in
theorem j_Ledger_curves_17 (a1 : Int) (μ : ZMem) : AW cf_Ledger_curves S_Ledger.length S_Ledger S_Ledger 17 [(0, zR (some 0)), (1, zI a1)] [] μ 0 0 (J_Ledger_curves_17 a1 μ) := by
  unfold J_Ledger_curves_17
  refine AW.lconst0 (by decide +kernel) (?_ : AW _ _ _ _ 18 _ _ _ _ _ _)
  refine AW.lstore_n' (i := 2) (L' := [(2, zJ 0), (0, zR (some 0)), (1, zI a1)]) (by decide +kernel) (by decide) rfl (?_ : AW _ _ _ _ 19 _ _ _ _ _ _)
  refine AW.lconst0 (by decide +kernel) (?_ : AW _ _ _ _ 20 _ _ _ _ _ _)
  refine AW.lstore' (i := 4) (L' := [(4, zJ 0), (2, zJ 0), (0, zR (some 0)), (1, zI a1)]) (by decide +kernel) (by decide) rfl (?_ : AW _ _ _ _ 22 _ _ _ _ _ _)
  refine AW.iconst (n := -1) (by decide +kernel) (?_ : AW _ _ _ _ 23 _ _ _ _ _ _)
  refine AW.istore' (i := 6) (L' := [(6, zI (-1)), (4, zJ 0), (2, zJ 0), (0, zR (some 0)), (1, zI a1)]) (by decide +kernel) (by decide) rfl (?_ : AW _ _ _ _ 25 _ _ _ _ _ _)
  refine AW.iconst (n := -1) (by decide +kernel) (?_ : AW _ _ _ _ 26 _ _ _ _ _ _)
  refine AW.istore' (i := 7) (L' := [(7, zI (-1)), (6, zI (-1)), (4, zJ 0), (2, zJ 0), (0, zR (some 0)), (1, zI a1)]) (by decide +kernel) (by decide) rfl (?_ : AW _ _ _ _ 28 _ _ _ _ _ _)
  refine AW.iconst (n := 0) (by decide +kernel) (?_ : AW _ _ _ _ 29 _ _ _ _ _ _)
  refine AW.istore' (i := 8) (L' := [(8, zI 0), (7, zI (-1)), (6, zI (-1)), (4, zJ 0), (2, zJ 0), (0, zR (some 0)), (1, zI a1)]) (by decide +kernel) (by decide) rfl (?_ : AW _ _ _ _ 31 _ _ _ _ _ _)
  refine AW.sub (L' := [(0, zR (some 0)), (1, zI a1), (2, zJ 0), (4, zJ 0), (6, zI (-1)), (7, zI (-1)), (8, zI 0)]) [5, 6, 4, 3, 2, 1, 0] rfl ?_
  refine l_Ledger_curves_31 (fun k6 k7 μ5 => ?_) zN _ _ _ _ _ _
  refine AW.iload_n (i := 1) (a := a1) (by decide +kernel) rfl (?_ : AW _ _ _ _ 112 _ _ _ _ _ _)
  refine AW.if_ne (off := 8) (tgt := 120) (by decide +kernel) (by decide) (fun _ => ?_) (fun _ => ?_)
  · refine AW.iload (i := 6) (a := k6) (by decide +kernel) rfl (?_ : AW _ _ _ _ 117 _ _ _ _ _ _)
    refine AW.goto (off := 5) (tgt := 122) (by decide +kernel) (by decide) ?_
    exact AW.reti (by decide +kernel) rfl (by decide) (by decide)
  · refine AW.iload (i := 7) (a := k7) (by decide +kernel) rfl (?_ : AW _ _ _ _ 122 _ _ _ _ _ _)
    exact AW.reti (by decide +kernel) rfl (by decide) (by decide)
def F_Ledger_curves (a1 : Int) (μ : ZMem) : Option ZRes := if w32 a1 = 0 then (J_Ledger_curves_17 a1 μ) else (if w32 a1 = w32 1 then (J_Ledger_curves_17 a1 μ) else (some (.inl "java/util/NoSuchElementException", μ)))
set_option maxRecDepth 100000 in
theorem w_Ledger_curves (a1 : Int) (μ : ZMem) : AW cf_Ledger_curves S_Ledger.length S_Ledger S_Ledger 0 [(0, zR (some 0)), (1, zI a1)] [] μ 0 0 (F_Ledger_curves a1 μ) := by
  unfold F_Ledger_curves
  refine AW.iload_n (i := 1) (a := a1) (by decide +kernel) rfl (?_ : AW _ _ _ _ 1 _ _ _ _ _ _)
  refine AW.if_eq (off := 16) (tgt := 17) (by decide +kernel) (by decide) (fun _ => ?_) (fun _ => ?_)
  · exact j_Ledger_curves_17 a1 μ
  · refine AW.iload_n (i := 1) (a := a1) (by decide +kernel) rfl (?_ : AW _ _ _ _ 5 _ _ _ _ _ _)
    refine AW.iconst (n := 1) (by decide +kernel) (?_ : AW _ _ _ _ 6 _ _ _ _ _ _)
    refine AW.icmp_eq (off := 11) (tgt := 17) (by decide +kernel) (by decide) (fun _ => ?_) (fun _ => ?_)
    · exact j_Ledger_curves_17 a1 μ
    · exact AW.throw thr_Ledger_curves_9 (by decide) (by decide) (by decide)
theorem c_Ledger_curves (l : Launch) (hl : l.stackTraces = false) (a1 : Int) (μ : ZMem) (r : ZRes) (h : F_Ledger_curves a1 μ = some r) : ZC l cf_Ledger_curves S_Ledger S_Ledger [zR (some 0), zI a1] μ r := ZC.of hl (by decide +kernel) rfl rfl zft_X8_ok (Nat.le_of_ble_eq_true rfl) h (w_Ledger_curves a1 μ)
/-! WeirLedger.rate(I)I -/
def cf_Ledger_rate : ZCf := (yX8_rate, cX8_rate, 4, some .int, [], 10, 1, 6, zft_X8, none)
theorem cal_Ledger_rate : zCallee cf_Ledger_rate 1 := ⟨rfl, zc_yX8_rate, by decide, by decide, by decide +kernel⟩
theorem thr_Ledger_rate_13 : zThr cf_Ledger_rate 13 117 119 zEn "java/lang/IndexOutOfBoundsException" := zThr_of ztw_IndexOutOfBoundsException (by decide +kernel) (by decide +kernel) (by decide +kernel) (by decide +kernel) rfl (by decide)
def L_Ledger_rate_37 (c2 : Int) (K : ZMem → Option ZRes) : Nat → Int → ZMem → Option ZRes
  | 0, _, _ => none
  | n + 1, v3, μ => if w32 v3 < 0 then (K  μ) else (zCm [29, 30, 31] μ (F_Trace_worth c2 (μ 14 6) v3 (zVw [29, 30, 31] μ)) (zkD (fun x2 μ1 => if w32 (zdcmp .l x2 FP.dconst0) < 0 then (zLet (v3 + (-1)) (fun x3 => L_Ledger_rate_37 c2 K n x3 μ1)) else (some (.inr (some (zI v3)), μ1)))) zX0)
set_option maxRecDepth 100000 in
theorem l_Ledger_rate_37 {c2 : Int} {K : ZMem → Option ZRes} (hK : ∀ (μ : ZMem), AW cf_Ledger_rate S_Ledger.length S_Ledger S_Ledger 76 [] [] μ 0 0 (K μ)) : ∀ (n : Nat) (v3 : Int) (μ : ZMem), AW cf_Ledger_rate S_Ledger.length S_Ledger S_Ledger 37 [(0, zR (some 0)), (2, zI c2), (3, zI v3)] [] μ 0 0 (L_Ledger_rate_37 c2 K n v3 μ) := by
  intro n
  induction n with
  | zero => intro v3 μ; exact AW.noth
  | succ n ih =>
    intro v3 μ
    rw [L_Ledger_rate_37]
    refine AW.iload_n (i := 3) (a := v3) (by decide +kernel) rfl (?_ : AW _ _ _ _ 38 _ _ _ _ _ _)
    refine AW.if_lt (off := 38) (tgt := 76) (by decide +kernel) (by decide) (fun _ => ?_) (fun _ => ?_)
    · refine AW.sub (L' := []) [] rfl ?_
      exact hK  μ
    · refine AW.aload_n (i := 0) (a := 0) (by decide +kernel) rfl (?_ : AW _ _ _ _ 42 _ _ _ _ _ _)
      refine AW.getR (idx := 38) (ci := 8) (k := 4) (r := 0) (by decide +kernel) rfl rfl rfl (?_ : AW _ _ _ _ 45 _ _ _ _ _ _)
      refine AW.getR (idx := 282) (ci := 5) (k := 3) (r := 13) (by decide +kernel) rfl rfl rfl (?_ : AW _ _ _ _ 48 _ _ _ _ _ _)
      refine AW.iload_n (i := 2) (a := c2) (by decide +kernel) rfl (?_ : AW _ _ _ _ 49 _ _ _ _ _ _)
      refine AW.aload_n (i := 0) (a := 0) (by decide +kernel) rfl (?_ : AW _ _ _ _ 50 _ _ _ _ _ _)
      refine AW.getR (idx := 38) (ci := 8) (k := 4) (r := 0) (by decide +kernel) rfl rfl rfl (?_ : AW _ _ _ _ 53 _ _ _ _ _ _)
      refine AW.getR (idx := 152) (ci := 5) (k := 0) (r := 13) (by decide +kernel) rfl rfl rfl (?_ : AW _ _ _ _ 56 _ _ _ _ _ _)
      refine AW.getI (idx := 244) (ci := 0) (k := 6) (r := 14) (by decide +kernel) rfl rfl rfl (?_ : AW _ _ _ _ 59 _ _ _ _ _ _)
      refine AW.iload_n (i := 3) (a := v3) (by decide +kernel) rfl (?_ : AW _ _ _ _ 60 _ _ _ _ _ _)
      refine AW.callVm (g := cf_Trace_worth) (Sg := S_Trace) (pl := [29, 30, 31]) (av := [zI c2, zI (μ 14 6), zI v3]) (b0 := 0) (ci := 7) (idx := 292) (n := 3) (st := []) (by decide +kernel) (fun l hl r hr => c_Trace_worth l hl c2 (μ 14 6) v3 _ r hr) sb_66 rfl cal_Trace_worth rfl (zw4 zm_X8_292 zi_yX7_worth zs_yX7_worth zn_X7) rfl rfl ⟨by decide, by decide, by decide, by decide⟩ (Nat.le_of_ble_eq_true rfl) (Or.inl rfl) (fun v μ1 => AW.rD (fun x2 => (?_ : AW _ _ _ _ 63 _ _ _ _ _ _)) v)
      refine AW.dconst0 (by decide +kernel) (?_ : AW _ _ _ _ 64 _ _ _ _ _ _)
      refine AW.dcmp (op := .l) (by decide +kernel) (?_ : AW _ _ _ _ 65 _ _ _ _ _ _)
      refine AW.if_lt (off := 5) (tgt := 70) (by decide +kernel) (by decide) (fun _ => ?_) (fun _ => ?_)
      · refine AW.iincL (i := 3) (n := -1) (a := v3) (L' := fun x3 => [(3, zI x3), (0, zR (some 0)), (2, zI c2)]) (by decide +kernel) rfl (by decide) (fun _ => rfl) (fun x3 => (?_ : AW _ _ _ _ 73 _ _ _ _ _ _))
        refine AW.goto (off := -36) (tgt := 37) (by decide +kernel) (by decide) ?_
        refine AW.sub (L' := [(0, zR (some 0)), (2, zI c2), (3, zI x3)]) [1, 2, 0] rfl ?_
        exact ih x3 μ1
      · refine AW.iload_n (i := 3) (a := v3) (by decide +kernel) rfl (?_ : AW _ _ _ _ 69 _ _ _ _ _ _)
        exact AW.reti (by decide +kernel) rfl (by decide) (by decide)
def J_Ledger_rate_32 (y0 : Int) (μ : ZMem) : Option ZRes := L_Ledger_rate_37 y0 (fun μ4 => some (.inr (some (zI (-1))), μ4)) zN 999 μ
set_option maxRecDepth 100000 in
theorem j_Ledger_rate_32 (y0 : Int) (μ : ZMem) : AW cf_Ledger_rate S_Ledger.length S_Ledger S_Ledger 32 [(0, zR (some 0))] [zI y0] μ 0 0 (J_Ledger_rate_32 y0 μ) := by
  unfold J_Ledger_rate_32
  refine AW.istore_n' (i := 2) (L' := [(2, zI y0), (0, zR (some 0))]) (by decide +kernel) (by decide) rfl (?_ : AW _ _ _ _ 33 _ _ _ _ _ _)
  refine AW.sipush (n := 999) (by decide +kernel) (by decide +kernel) (?_ : AW _ _ _ _ 36 _ _ _ _ _ _)
  refine AW.istore_n' (i := 3) (L' := [(3, zI 999), (2, zI y0), (0, zR (some 0))]) (by decide +kernel) (by decide) rfl (?_ : AW _ _ _ _ 37 _ _ _ _ _ _)
  refine AW.sub (L' := [(0, zR (some 0)), (2, zI y0), (3, zI 999)]) [2, 1, 0] rfl ?_
  refine l_Ledger_rate_37 (fun μ4 => ?_) zN _ _
  refine AW.iconst (n := -1) (by decide +kernel) (?_ : AW _ _ _ _ 77 _ _ _ _ _ _)
  exact AW.reti (by decide +kernel) rfl (by decide) (by decide)
def J_Ledger_rate_21 (a1 : Int) (μ : ZMem) : Option ZRes := if w32 a1 = w32 (-1) then (J_Ledger_rate_32 6 μ) else (J_Ledger_rate_32 a1 μ)
set_option maxRecDepth 100000 in
theorem j_Ledger_rate_21 (a1 : Int) (μ : ZMem) : AW cf_Ledger_rate S_Ledger.length S_Ledger S_Ledger 21 [(0, zR (some 0)), (1, zI a1)] [] μ 0 0 (J_Ledger_rate_21 a1 μ) := by
  unfold J_Ledger_rate_21
  refine AW.iload_n (i := 1) (a := a1) (by decide +kernel) rfl (?_ : AW _ _ _ _ 22 _ _ _ _ _ _)
  refine AW.iconst (n := -1) (by decide +kernel) (?_ : AW _ _ _ _ 23 _ _ _ _ _ _)
  refine AW.icmp_ne (off := 8) (tgt := 31) (by decide +kernel) (by decide) (fun _ => ?_) (fun _ => ?_)
  · refine AW.bipush (n := 6) (by decide +kernel) (by decide +kernel) (?_ : AW _ _ _ _ 28 _ _ _ _ _ _)
    refine AW.goto (off := 4) (tgt := 32) (by decide +kernel) (by decide) ?_
    refine AW.sub (L' := [(0, zR (some 0))]) [0] rfl ?_
    exact j_Ledger_rate_32 6 μ
  · refine AW.iload_n (i := 1) (a := a1) (by decide +kernel) rfl (?_ : AW _ _ _ _ 32 _ _ _ _ _ _)
    refine AW.sub (L' := [(0, zR (some 0))]) [0] rfl ?_
    exact j_Ledger_rate_32 a1 μ
def F_Ledger_rate (a1 : Int) (μ : ZMem) : Option ZRes := if w32 a1 = w32 (-1) then (J_Ledger_rate_21 a1 μ) else (zC (F_Ledger_isInvestor a1 μ) (zkI (fun x6 μ5 => if w32 x6 = 0 then (some (.inl "java/lang/IndexOutOfBoundsException", μ5)) else (J_Ledger_rate_21 a1 μ5))) zX0)
set_option maxRecDepth 100000 in
theorem w_Ledger_rate (a1 : Int) (μ : ZMem) : AW cf_Ledger_rate S_Ledger.length S_Ledger S_Ledger 0 [(0, zR (some 0)), (1, zI a1)] [] μ 0 0 (F_Ledger_rate a1 μ) := by
  unfold F_Ledger_rate
  refine AW.iload_n (i := 1) (a := a1) (by decide +kernel) rfl (?_ : AW _ _ _ _ 1 _ _ _ _ _ _)
  refine AW.iconst (n := -1) (by decide +kernel) (?_ : AW _ _ _ _ 2 _ _ _ _ _ _)
  refine AW.icmp_eq (off := 19) (tgt := 21) (by decide +kernel) (by decide) (fun _ => ?_) (fun _ => ?_)
  · exact j_Ledger_rate_21 a1 μ
  · refine AW.aload_n (i := 0) (a := 0) (by decide +kernel) rfl (?_ : AW _ _ _ _ 6 _ _ _ _ _ _)
    refine AW.iload_n (i := 1) (a := a1) (by decide +kernel) rfl (?_ : AW _ _ _ _ 7 _ _ _ _ _ _)
    refine AW.callVw (g := cf_Ledger_isInvestor) (av := [zI a1]) (b0 := 0) (ci := 8) (idx := 113) (n := 1) (st := []) (by decide +kernel) (fun l hl r hr => c_Ledger_isInvestor l hl a1 _ r hr) S_Ledger_wf rfl cal_Ledger_isInvestor rfl (zw4 zm_X8_113 zi_yX8_isInvestor zs_yX8_isInvestor zn_X8) rfl rfl ⟨by decide, by decide, by decide, by decide⟩ (Nat.le_of_ble_eq_true rfl) (Or.inl rfl) (fun v μ5 => AW.kI (fun x6 => (?_ : AW _ _ _ _ 10 _ _ _ _ _ _)) v)
    refine AW.if_ne (off := 11) (tgt := 21) (by decide +kernel) (by decide) (fun _ => ?_) (fun _ => ?_)
    · exact AW.throw thr_Ledger_rate_13 (by decide) (by decide) (by decide)
    · exact j_Ledger_rate_21 a1 μ5
theorem c_Ledger_rate (l : Launch) (hl : l.stackTraces = false) (a1 : Int) (μ : ZMem) (r : ZRes) (h : F_Ledger_rate a1 μ = some r) : ZC l cf_Ledger_rate S_Ledger S_Ledger [zR (some 0), zI a1] μ r := ZC.of hl (by decide +kernel) rfl rfl zft_X8_ok (Nat.le_of_ble_eq_true rfl) h (w_Ledger_rate a1 μ)
/-! WeirLedger$Register.allOf([I)J -/
def cf_Register_allOf_3 : ZCf := (yX4_allOf, cX4_allOf, 5, some .long, [], 2, 0, 0, zft_X4, none)
theorem cal_Register_allOf_3 : zCallee cf_Register_allOf_3 1 := ⟨rfl, zc_yX4_allOf, by decide, by decide, by decide +kernel⟩
def L_Register_allOf_3_5 (μ : ZMem) (K : Int → Option ZRes) : Nat → Int → Int → Option ZRes
  | 0, _, _ => none
  | n + 1, v2, v4 => if w32 (μ 0 8) ≤ w32 v4 then (K v2) else (zRd μ 3 6 v4 (fun x1 => zLet ((v2 + (w32 x1))) (fun x2 => zLet (v4 + 1) (fun x3 => L_Register_allOf_3_5 μ K n x2 x3))))
set_option maxRecDepth 100000 in
theorem l_Register_allOf_3_5 {μ : ZMem} {K : Int → Option ZRes} (hK : ∀ (k2 : Int), AW cf_Register_allOf_3 S_Register2.length S_Register2 S_Register2 28 [(2, zJ k2)] [] μ 0 0 (K k2)) : ∀ (n : Nat) (v2 : Int) (v4 : Int), AW cf_Register_allOf_3 S_Register2.length S_Register2 S_Register2 5 [(0, zR (some 0)), (1, zR (some 3)), (2, zJ v2), (4, zI v4)] [] μ 0 0 (L_Register_allOf_3_5 μ K n v2 v4) := by
  intro n
  induction n with
  | zero => intro v2 v4; exact AW.noth
  | succ n ih =>
    intro v2 v4
    rw [L_Register_allOf_3_5]
    refine AW.iload (i := 4) (a := v4) (by decide +kernel) rfl (?_ : AW _ _ _ _ 7 _ _ _ _ _ _)
    refine AW.aload_n (i := 0) (a := 0) (by decide +kernel) rfl (?_ : AW _ _ _ _ 8 _ _ _ _ _ _)
    refine AW.getI (idx := 60) (ci := 4) (k := 8) (r := 0) (by decide +kernel) rfl rfl rfl (?_ : AW _ _ _ _ 11 _ _ _ _ _ _)
    refine AW.icmp_ge (off := 17) (tgt := 28) (by decide +kernel) (by decide) (fun _ => ?_) (fun _ => ?_)
    · refine AW.sub (L' := [(2, zJ v2)]) [2] rfl ?_
      exact hK v2
    · refine AW.lload_n (i := 2) (a := v2) (by decide +kernel) rfl (?_ : AW _ _ _ _ 15 _ _ _ _ _ _)
      refine AW.aload_n (i := 1) (a := 3) (by decide +kernel) rfl (?_ : AW _ _ _ _ 16 _ _ _ _ _ _)
      refine AW.iload (i := 4) (a := v4) (by decide +kernel) rfl (?_ : AW _ _ _ _ 18 _ _ _ _ _ _)
      refine AW.iald (r := 3) (by decide +kernel) rfl (fun x1 => (?_ : AW _ _ _ _ 19 _ _ _ _ _ _))
      refine AW.i2l (by decide +kernel) (?_ : AW _ _ _ _ 20 _ _ _ _ _ _)
      refine AW.ladd (by decide +kernel) (?_ : AW _ _ _ _ 21 _ _ _ _ _ _)
      refine AW.lstoreL_n (i := 2) (L' := fun x2 => [(2, zJ x2), (0, zR (some 0)), (1, zR (some 3)), (4, zI v4)]) (by decide +kernel) (by decide) (fun _ => rfl) (fun x2 => (?_ : AW _ _ _ _ 22 _ _ _ _ _ _))
      refine AW.iincL (i := 4) (n := 1) (a := v4) (L' := fun x3 => [(4, zI x3), (2, zJ x2), (0, zR (some 0)), (1, zR (some 3))]) (by decide +kernel) rfl (by decide) (fun _ => rfl) (fun x3 => (?_ : AW _ _ _ _ 25 _ _ _ _ _ _))
      refine AW.goto (off := -20) (tgt := 5) (by decide +kernel) (by decide) ?_
      refine AW.sub (L' := [(0, zR (some 0)), (1, zR (some 3)), (2, zJ x2), (4, zI x3)]) [2, 3, 1, 0] rfl ?_
      exact ih x2 x3
def F_Register_allOf_3 (μ : ZMem) : Option ZRes := L_Register_allOf_3_5 μ (fun k4 => some (.inr (some (zJ k4)), μ)) zN 0 0
set_option maxRecDepth 100000 in
theorem w_Register_allOf_3 (μ : ZMem) : AW cf_Register_allOf_3 S_Register2.length S_Register2 S_Register2 0 [(0, zR (some 0)), (1, zR (some 3))] [] μ 0 0 (F_Register_allOf_3 μ) := by
  unfold F_Register_allOf_3
  refine AW.lconst0 (by decide +kernel) (?_ : AW _ _ _ _ 1 _ _ _ _ _ _)
  refine AW.lstore_n' (i := 2) (L' := [(2, zJ 0), (0, zR (some 0)), (1, zR (some 3))]) (by decide +kernel) (by decide) rfl (?_ : AW _ _ _ _ 2 _ _ _ _ _ _)
  refine AW.iconst (n := 0) (by decide +kernel) (?_ : AW _ _ _ _ 3 _ _ _ _ _ _)
  refine AW.istore' (i := 4) (L' := [(4, zI 0), (2, zJ 0), (0, zR (some 0)), (1, zR (some 3))]) (by decide +kernel) (by decide) rfl (?_ : AW _ _ _ _ 5 _ _ _ _ _ _)
  refine AW.sub (L' := [(0, zR (some 0)), (1, zR (some 3)), (2, zJ 0), (4, zI 0)]) [2, 3, 1, 0] rfl ?_
  refine l_Register_allOf_3_5 (fun k4 => ?_) zN _ _
  refine AW.lload_n (i := 2) (a := k4) (by decide +kernel) rfl (?_ : AW _ _ _ _ 29 _ _ _ _ _ _)
  exact AW.retl (by decide +kernel) rfl (by decide) (by decide)
theorem c_Register_allOf_3 (l : Launch) (hl : l.stackTraces = false) (μ : ZMem) (r : ZRes) (h : F_Register_allOf_3 μ = some r) : ZC l cf_Register_allOf_3 S_Register2 S_Register2 [zR (some 0), zR (some 3)] μ r := ZC.of hl (by decide +kernel) rfl rfl zft_X4_ok (Nat.le_of_ble_eq_true rfl) h (w_Register_allOf_3 μ)
/-! WeirLedger.multiple(I)I -/
def cf_Ledger_multiple : ZCf := (yX8_multiple, cX8_multiple, 7, some .int, [], 10, 1, 6, zft_X8, none)
theorem cal_Ledger_multiple : zCallee cf_Ledger_multiple 1 := ⟨rfl, zc_yX8_multiple, by decide, by decide, by decide +kernel⟩
theorem thr_Ledger_multiple_13 : zThr cf_Ledger_multiple 13 117 119 zEn "java/lang/IndexOutOfBoundsException" := zThr_of ztw_IndexOutOfBoundsException (by decide +kernel) (by decide +kernel) (by decide +kernel) (by decide +kernel) rfl (by decide)
def J_Ledger_multiple_93 (u2 : Int) (y0 : Int) (μ : ZMem) : Option ZRes := if w64 y0 = w64 0 then (some (.inr (some (zI (-1))), μ)) else (zfdiv (zl2f u2) (zl2f y0) (fun d3 => zfmul d3 (1148846080 : UInt32) (fun d4 => some (.inr (some (zI (zf2i d4))), μ))))
set_option maxRecDepth 100000 in
theorem j_Ledger_multiple_93 (u2 : Int) (y0 : Int) (μ : ZMem) : AW cf_Ledger_multiple S_Ledger.length S_Ledger S_Ledger 93 [(2, zJ u2)] [zJ y0] μ 0 0 (J_Ledger_multiple_93 u2 y0 μ) := by
  unfold J_Ledger_multiple_93
  refine AW.lstore' (i := 4) (L' := [(4, zJ y0), (2, zJ u2)]) (by decide +kernel) (by decide) rfl (?_ : AW _ _ _ _ 95 _ _ _ _ _ _)
  refine AW.lload (i := 4) (a := y0) (by decide +kernel) rfl (?_ : AW _ _ _ _ 97 _ _ _ _ _ _)
  refine AW.lconst0 (by decide +kernel) (?_ : AW _ _ _ _ 98 _ _ _ _ _ _)
  refine AW.lcmp_ne (off := 5) (tgt := 104) (by decide +kernel) (by decide +kernel) (by decide) (fun _ => ?_) (fun _ => ?_)
  · refine AW.iconst (n := -1) (by decide +kernel) (?_ : AW _ _ _ _ 103 _ _ _ _ _ _)
    exact AW.reti (by decide +kernel) rfl (by decide) (by decide)
  · refine AW.lload_n (i := 2) (a := u2) (by decide +kernel) rfl (?_ : AW _ _ _ _ 105 _ _ _ _ _ _)
    refine AW.l2f (by decide +kernel) (?_ : AW _ _ _ _ 106 _ _ _ _ _ _)
    refine AW.lload (i := 4) (a := y0) (by decide +kernel) rfl (?_ : AW _ _ _ _ 108 _ _ _ _ _ _)
    refine AW.l2f (by decide +kernel) (?_ : AW _ _ _ _ 109 _ _ _ _ _ _)
    refine AW.fdiv_if (by decide +kernel) (fun d3 => (?_ : AW _ _ _ _ 110 _ _ _ _ _ _))
    refine AW.fstore' (i := 6) (L' := [(6, zF d3), (4, zJ y0), (2, zJ u2)]) (by decide +kernel) (by decide) rfl (?_ : AW _ _ _ _ 112 _ _ _ _ _ _)
    refine AW.fload (i := 6) (a := d3) (by decide +kernel) rfl (?_ : AW _ _ _ _ 114 _ _ _ _ _ _)
    refine AW.ldcwf (idx := 296) (v := 1148846080) (by decide +kernel) zk_X8_296 (?_ : AW _ _ _ _ 117 _ _ _ _ _ _)
    refine AW.fmul_if (by decide +kernel) (fun d4 => (?_ : AW _ _ _ _ 118 _ _ _ _ _ _))
    refine AW.f2i (by decide +kernel) (?_ : AW _ _ _ _ 119 _ _ _ _ _ _)
    exact AW.reti (by decide +kernel) rfl (by decide) (by decide)
def J_Ledger_multiple_51 (a1 : Int) (y0 : Int) (μ : ZMem) : Option ZRes := if w32 a1 = w32 (-1) then (zCm [20, 21, 22, 23, 24, 25, 26, 27, 28] μ (F_Register_allOf_3  (zVw [20, 21, 22, 23, 24, 25, 26, 27, 28] μ)) (zkJ (fun x2 μ1 => J_Ledger_multiple_93 y0 x2 μ1)) zX0) else (zRd μ 23 6 a1 (fun x5 => J_Ledger_multiple_93 y0 (w32 x5) μ))
set_option maxRecDepth 100000 in
theorem j_Ledger_multiple_51 (a1 : Int) (y0 : Int) (μ : ZMem) : AW cf_Ledger_multiple S_Ledger.length S_Ledger S_Ledger 51 [(0, zR (some 0)), (1, zI a1)] [zJ y0] μ 0 0 (J_Ledger_multiple_51 a1 y0 μ) := by
  unfold J_Ledger_multiple_51
  refine AW.lstore_n' (i := 2) (L' := [(2, zJ y0), (0, zR (some 0)), (1, zI a1)]) (by decide +kernel) (by decide) rfl (?_ : AW _ _ _ _ 52 _ _ _ _ _ _)
  refine AW.iload_n (i := 1) (a := a1) (by decide +kernel) rfl (?_ : AW _ _ _ _ 53 _ _ _ _ _ _)
  refine AW.iconst (n := -1) (by decide +kernel) (?_ : AW _ _ _ _ 54 _ _ _ _ _ _)
  refine AW.icmp_ne (off := 26) (tgt := 80) (by decide +kernel) (by decide) (fun _ => ?_) (fun _ => ?_)
  · refine AW.aload_n (i := 0) (a := 0) (by decide +kernel) rfl (?_ : AW _ _ _ _ 58 _ _ _ _ _ _)
    refine AW.getR (idx := 38) (ci := 8) (k := 4) (r := 0) (by decide +kernel) rfl rfl rfl (?_ : AW _ _ _ _ 61 _ _ _ _ _ _)
    refine AW.getR (idx := 120) (ci := 5) (k := 1) (r := 13) (by decide +kernel) rfl rfl rfl (?_ : AW _ _ _ _ 64 _ _ _ _ _ _)
    refine AW.aload_n (i := 0) (a := 0) (by decide +kernel) rfl (?_ : AW _ _ _ _ 65 _ _ _ _ _ _)
    refine AW.getR (idx := 38) (ci := 8) (k := 4) (r := 0) (by decide +kernel) rfl rfl rfl (?_ : AW _ _ _ _ 68 _ _ _ _ _ _)
    refine AW.getR (idx := 120) (ci := 5) (k := 1) (r := 13) (by decide +kernel) rfl rfl rfl (?_ : AW _ _ _ _ 71 _ _ _ _ _ _)
    refine AW.getR (idx := 132) (ci := 4) (k := 2) (r := 20) (by decide +kernel) rfl rfl rfl (?_ : AW _ _ _ _ 74 _ _ _ _ _ _)
    refine AW.callVm (g := cf_Register_allOf_3) (Sg := S_Register2) (pl := [20, 21, 22, 23, 24, 25, 26, 27, 28]) (av := [zR (some 3)]) (b0 := 0) (ci := 4) (idx := 240) (n := 1) (st := []) (by decide +kernel) (fun l hl r hr => c_Register_allOf_3 l hl  _ r hr) sb_51 rfl cal_Register_allOf_3 rfl (zw4 zm_X8_240 zi_yX4_allOf zs_yX4_allOf zn_X4) rfl rfl ⟨by decide, by decide, by decide, by decide⟩ (Nat.le_of_ble_eq_true rfl) (Or.inl rfl) (fun v μ1 => AW.rJ (fun x2 => (?_ : AW _ _ _ _ 77 _ _ _ _ _ _)) v)
    refine AW.goto (off := 16) (tgt := 93) (by decide +kernel) (by decide) ?_
    refine AW.sub (L' := [(2, zJ y0)]) [0] rfl ?_
    exact j_Ledger_multiple_93 y0 x2 μ1
  · refine AW.aload_n (i := 0) (a := 0) (by decide +kernel) rfl (?_ : AW _ _ _ _ 81 _ _ _ _ _ _)
    refine AW.getR (idx := 38) (ci := 8) (k := 4) (r := 0) (by decide +kernel) rfl rfl rfl (?_ : AW _ _ _ _ 84 _ _ _ _ _ _)
    refine AW.getR (idx := 120) (ci := 5) (k := 1) (r := 13) (by decide +kernel) rfl rfl rfl (?_ : AW _ _ _ _ 87 _ _ _ _ _ _)
    refine AW.getR (idx := 132) (ci := 4) (k := 2) (r := 20) (by decide +kernel) rfl rfl rfl (?_ : AW _ _ _ _ 90 _ _ _ _ _ _)
    refine AW.iload_n (i := 1) (a := a1) (by decide +kernel) rfl (?_ : AW _ _ _ _ 91 _ _ _ _ _ _)
    refine AW.iald (r := 23) (by decide +kernel) rfl (fun x5 => (?_ : AW _ _ _ _ 92 _ _ _ _ _ _))
    refine AW.i2l (by decide +kernel) (?_ : AW _ _ _ _ 93 _ _ _ _ _ _)
    refine AW.sub (L' := [(2, zJ y0)]) [0] rfl ?_
    exact j_Ledger_multiple_93 y0 (w32 x5) μ
def J_Ledger_multiple_21 (a1 : Int) (μ : ZMem) : Option ZRes := if w32 a1 = w32 (-1) then (J_Ledger_multiple_51 a1 (μ 20 10) μ) else (zRd μ 24 6 a1 (fun x6 => J_Ledger_multiple_51 a1 x6 μ))
set_option maxRecDepth 100000 in
theorem j_Ledger_multiple_21 (a1 : Int) (μ : ZMem) : AW cf_Ledger_multiple S_Ledger.length S_Ledger S_Ledger 21 [(0, zR (some 0)), (1, zI a1)] [] μ 0 0 (J_Ledger_multiple_21 a1 μ) := by
  unfold J_Ledger_multiple_21
  refine AW.iload_n (i := 1) (a := a1) (by decide +kernel) rfl (?_ : AW _ _ _ _ 22 _ _ _ _ _ _)
  refine AW.iconst (n := -1) (by decide +kernel) (?_ : AW _ _ _ _ 23 _ _ _ _ _ _)
  refine AW.icmp_ne (off := 16) (tgt := 39) (by decide +kernel) (by decide) (fun _ => ?_) (fun _ => ?_)
  · refine AW.aload_n (i := 0) (a := 0) (by decide +kernel) rfl (?_ : AW _ _ _ _ 27 _ _ _ _ _ _)
    refine AW.getR (idx := 38) (ci := 8) (k := 4) (r := 0) (by decide +kernel) rfl rfl rfl (?_ : AW _ _ _ _ 30 _ _ _ _ _ _)
    refine AW.getR (idx := 120) (ci := 5) (k := 1) (r := 13) (by decide +kernel) rfl rfl rfl (?_ : AW _ _ _ _ 33 _ _ _ _ _ _)
    refine AW.getJ (idx := 203) (ci := 4) (k := 10) (r := 20) (by decide +kernel) rfl rfl rfl (?_ : AW _ _ _ _ 36 _ _ _ _ _ _)
    refine AW.goto (off := 15) (tgt := 51) (by decide +kernel) (by decide) ?_
    exact j_Ledger_multiple_51 a1 (μ 20 10) μ
  · refine AW.aload_n (i := 0) (a := 0) (by decide +kernel) rfl (?_ : AW _ _ _ _ 40 _ _ _ _ _ _)
    refine AW.getR (idx := 38) (ci := 8) (k := 4) (r := 0) (by decide +kernel) rfl rfl rfl (?_ : AW _ _ _ _ 43 _ _ _ _ _ _)
    refine AW.getR (idx := 120) (ci := 5) (k := 1) (r := 13) (by decide +kernel) rfl rfl rfl (?_ : AW _ _ _ _ 46 _ _ _ _ _ _)
    refine AW.getR (idx := 135) (ci := 4) (k := 3) (r := 20) (by decide +kernel) rfl rfl rfl (?_ : AW _ _ _ _ 49 _ _ _ _ _ _)
    refine AW.iload_n (i := 1) (a := a1) (by decide +kernel) rfl (?_ : AW _ _ _ _ 50 _ _ _ _ _ _)
    refine AW.lald (r := 24) (by decide +kernel) rfl (fun x6 => (?_ : AW _ _ _ _ 51 _ _ _ _ _ _))
    exact j_Ledger_multiple_51 a1 x6 μ
def F_Ledger_multiple (a1 : Int) (μ : ZMem) : Option ZRes := if w32 a1 = w32 (-1) then (J_Ledger_multiple_21 a1 μ) else (zC (F_Ledger_isInvestor a1 μ) (zkI (fun x8 μ7 => if w32 x8 = 0 then (some (.inl "java/lang/IndexOutOfBoundsException", μ7)) else (J_Ledger_multiple_21 a1 μ7))) zX0)
set_option maxRecDepth 100000 in
theorem w_Ledger_multiple (a1 : Int) (μ : ZMem) : AW cf_Ledger_multiple S_Ledger.length S_Ledger S_Ledger 0 [(0, zR (some 0)), (1, zI a1)] [] μ 0 0 (F_Ledger_multiple a1 μ) := by
  unfold F_Ledger_multiple
  refine AW.iload_n (i := 1) (a := a1) (by decide +kernel) rfl (?_ : AW _ _ _ _ 1 _ _ _ _ _ _)
  refine AW.iconst (n := -1) (by decide +kernel) (?_ : AW _ _ _ _ 2 _ _ _ _ _ _)
  refine AW.icmp_eq (off := 19) (tgt := 21) (by decide +kernel) (by decide) (fun _ => ?_) (fun _ => ?_)
  · exact j_Ledger_multiple_21 a1 μ
  · refine AW.aload_n (i := 0) (a := 0) (by decide +kernel) rfl (?_ : AW _ _ _ _ 6 _ _ _ _ _ _)
    refine AW.iload_n (i := 1) (a := a1) (by decide +kernel) rfl (?_ : AW _ _ _ _ 7 _ _ _ _ _ _)
    refine AW.callVw (g := cf_Ledger_isInvestor) (av := [zI a1]) (b0 := 0) (ci := 8) (idx := 113) (n := 1) (st := []) (by decide +kernel) (fun l hl r hr => c_Ledger_isInvestor l hl a1 _ r hr) S_Ledger_wf rfl cal_Ledger_isInvestor rfl (zw4 zm_X8_113 zi_yX8_isInvestor zs_yX8_isInvestor zn_X8) rfl rfl ⟨by decide, by decide, by decide, by decide⟩ (Nat.le_of_ble_eq_true rfl) (Or.inl rfl) (fun v μ7 => AW.kI (fun x8 => (?_ : AW _ _ _ _ 10 _ _ _ _ _ _)) v)
    refine AW.if_ne (off := 11) (tgt := 21) (by decide +kernel) (by decide) (fun _ => ?_) (fun _ => ?_)
    · exact AW.throw thr_Ledger_multiple_13 (by decide) (by decide) (by decide)
    · exact j_Ledger_multiple_21 a1 μ7
theorem c_Ledger_multiple (l : Launch) (hl : l.stackTraces = false) (a1 : Int) (μ : ZMem) (r : ZRes) (h : F_Ledger_multiple a1 μ = some r) : ZC l cf_Ledger_multiple S_Ledger S_Ledger [zR (some 0), zI a1] μ r := ZC.of hl (by decide +kernel) rfl rfl zft_X8_ok (Nat.le_of_ble_eq_true rfl) h (w_Ledger_multiple a1 μ)
/-! WeirLedger.act(II)I -/
def cf_Ledger_act : ZCf := (yX8_act, cX8_act, 3, some .int, [], 10, 1, 6, zft_X8, none)
theorem cal_Ledger_act : zCallee cf_Ledger_act 2 := ⟨rfl, zc_yX8_act, by decide, by decide, by decide +kernel⟩
theorem thr_Ledger_act_15 : zThr cf_Ledger_act 15 117 119 zEn "java/lang/IndexOutOfBoundsException" := zThr_of ztw_IndexOutOfBoundsException (by decide +kernel) (by decide +kernel) (by decide +kernel) (by decide +kernel) rfl (by decide)
theorem thr_Ledger_act_33 : zThr cf_Ledger_act 33 106 108 zEn "java/util/NoSuchElementException" := zThr_of ztw_NoSuchElementException (by decide +kernel) (by decide +kernel) (by decide +kernel) (by decide +kernel) rfl (by decide)
def J_Ledger_act_15 (μ : ZMem) : Option ZRes := some (.inl "java/lang/IndexOutOfBoundsException", μ)
set_option maxRecDepth 100000 in
theorem j_Ledger_act_15 (μ : ZMem) : AW cf_Ledger_act S_Ledger.length S_Ledger S_Ledger 15 [] [] μ 0 0 (J_Ledger_act_15 μ) := by
  unfold J_Ledger_act_15
  exact AW.throw thr_Ledger_act_15 (by decide) (by decide) (by decide)
def J_Ledger_act_33 (μ : ZMem) : Option ZRes := some (.inl "java/util/NoSuchElementException", μ)
set_option maxRecDepth 100000 in
theorem j_Ledger_act_33 (μ : ZMem) : AW cf_Ledger_act S_Ledger.length S_Ledger S_Ledger 33 [] [] μ 0 0 (J_Ledger_act_33 μ) := by
  unfold J_Ledger_act_33
  exact AW.throw thr_Ledger_act_33 (by decide) (by decide) (by decide)
def F_Ledger_act (a1 : Int) (a2 : Int) (μ : ZMem) : Option ZRes := if w32 a1 < 0 then (J_Ledger_act_15 μ) else (if w32 a1 < w32 (μ 11 1) then (if w32 a2 < 0 then (J_Ledger_act_33 μ) else (if w32 a2 < w32 7 then (zRd μ 12 420 ((a1 * 7) + a2) (fun x1 => some (.inr (some (zI x1)), μ))) else (J_Ledger_act_33 μ))) else (J_Ledger_act_15 μ))
set_option maxRecDepth 100000 in
theorem w_Ledger_act (a1 : Int) (a2 : Int) (μ : ZMem) : AW cf_Ledger_act S_Ledger.length S_Ledger S_Ledger 0 [(0, zR (some 0)), (1, zI a1), (2, zI a2)] [] μ 0 0 (F_Ledger_act a1 a2 μ) := by
  unfold F_Ledger_act
  refine AW.iload_n (i := 1) (a := a1) (by decide +kernel) rfl (?_ : AW _ _ _ _ 1 _ _ _ _ _ _)
  refine AW.if_lt (off := 14) (tgt := 15) (by decide +kernel) (by decide) (fun _ => ?_) (fun _ => ?_)
  · refine AW.sub (L' := []) [] rfl ?_
    exact j_Ledger_act_15 μ
  · refine AW.iload_n (i := 1) (a := a1) (by decide +kernel) rfl (?_ : AW _ _ _ _ 5 _ _ _ _ _ _)
    refine AW.aload_n (i := 0) (a := 0) (by decide +kernel) rfl (?_ : AW _ _ _ _ 6 _ _ _ _ _ _)
    refine AW.getR (idx := 29) (ci := 8) (k := 3) (r := 0) (by decide +kernel) rfl rfl rfl (?_ : AW _ _ _ _ 9 _ _ _ _ _ _)
    refine AW.getI (idx := 90) (ci := 2) (k := 1) (r := 11) (by decide +kernel) rfl rfl rfl (?_ : AW _ _ _ _ 12 _ _ _ _ _ _)
    refine AW.icmp_lt (off := 11) (tgt := 23) (by decide +kernel) (by decide) (fun _ => ?_) (fun _ => ?_)
    · refine AW.iload_n (i := 2) (a := a2) (by decide +kernel) rfl (?_ : AW _ _ _ _ 24 _ _ _ _ _ _)
      refine AW.if_lt (off := 9) (tgt := 33) (by decide +kernel) (by decide) (fun _ => ?_) (fun _ => ?_)
      · refine AW.sub (L' := []) [] rfl ?_
        exact j_Ledger_act_33 μ
      · refine AW.iload_n (i := 2) (a := a2) (by decide +kernel) rfl (?_ : AW _ _ _ _ 28 _ _ _ _ _ _)
        refine AW.bipush (n := 7) (by decide +kernel) (by decide +kernel) (?_ : AW _ _ _ _ 30 _ _ _ _ _ _)
        refine AW.icmp_lt (off := 11) (tgt := 41) (by decide +kernel) (by decide) (fun _ => ?_) (fun _ => ?_)
        · refine AW.aload_n (i := 0) (a := 0) (by decide +kernel) rfl (?_ : AW _ _ _ _ 42 _ _ _ _ _ _)
          refine AW.getR (idx := 29) (ci := 8) (k := 3) (r := 0) (by decide +kernel) rfl rfl rfl (?_ : AW _ _ _ _ 45 _ _ _ _ _ _)
          refine AW.getR (idx := 297) (ci := 2) (k := 0) (r := 11) (by decide +kernel) rfl rfl rfl (?_ : AW _ _ _ _ 48 _ _ _ _ _ _)
          refine AW.iload_n (i := 1) (a := a1) (by decide +kernel) rfl (?_ : AW _ _ _ _ 49 _ _ _ _ _ _)
          refine AW.bipush (n := 7) (by decide +kernel) (by decide +kernel) (?_ : AW _ _ _ _ 51 _ _ _ _ _ _)
          refine AW.imul (by decide +kernel) (?_ : AW _ _ _ _ 52 _ _ _ _ _ _)
          refine AW.iload_n (i := 2) (a := a2) (by decide +kernel) rfl (?_ : AW _ _ _ _ 53 _ _ _ _ _ _)
          refine AW.iadd (by decide +kernel) (?_ : AW _ _ _ _ 54 _ _ _ _ _ _)
          refine AW.iald (r := 12) (by decide +kernel) rfl (fun x1 => (?_ : AW _ _ _ _ 55 _ _ _ _ _ _))
          exact AW.reti (by decide +kernel) rfl (by decide) (by decide)
        · refine AW.sub (L' := []) [] rfl ?_
          exact j_Ledger_act_33 μ
    · refine AW.sub (L' := []) [] rfl ?_
      exact j_Ledger_act_15 μ
theorem c_Ledger_act (l : Launch) (hl : l.stackTraces = false) (a1 : Int) (a2 : Int) (μ : ZMem) (r : ZRes) (h : F_Ledger_act a1 a2 μ = some r) : ZC l cf_Ledger_act S_Ledger S_Ledger [zR (some 0), zI a1, zI a2] μ r := ZC.of hl (by decide +kernel) rfl rfl zft_X8_ok (Nat.le_of_ble_eq_true rfl) h (w_Ledger_act a1 a2 μ)
theorem sb_67 : zSub S_Ledger [109, 110, 111, 112, 3, 4, 5, 6] S_Fund2 := ⟨rfl, by decide +kernel, by decide +kernel, rfl⟩
theorem sb_68 : zSub S_Ledger [113, 114, 11, 12] S_Journal := ⟨rfl, by decide +kernel, by decide +kernel, rfl⟩
/-! WeirLedger.image()V -/
def cf_Ledger_image : ZCf := (yX8_image, cX8_image, 1, none, [], 3, 0, 0, zft_X8, none)
theorem cal_Ledger_image : zCallee cf_Ledger_image 0 := ⟨rfl, zc_yX8_image, by decide, by decide, by decide +kernel⟩
def F_Ledger_image (μ : ZMem) : Option ZRes := zCm [109, 110, 111, 112, 3, 4, 5, 6] μ (F_Fund_copyFrom  (zVw [109, 110, 111, 112, 3, 4, 5, 6] μ)) (zkV (fun μ1 => zCm [113, 114, 11, 12] μ1 (F_Journal_copyFrom  (zVw [113, 114, 11, 12] μ1)) (zkV (fun μ3 => zLet (zUp μ3 0 11 1) (fun μ5 => some (.inr none, μ5)))) zX0)) zX0
set_option maxRecDepth 100000 in
theorem w_Ledger_image (μ : ZMem) : AW cf_Ledger_image S_Ledger.length S_Ledger S_Ledger 0 [(0, zR (some 0))] [] μ 0 0 (F_Ledger_image μ) := by
  unfold F_Ledger_image
  refine AW.aload_n (i := 0) (a := 0) (by decide +kernel) rfl (?_ : AW _ _ _ _ 1 _ _ _ _ _ _)
  refine AW.getR (idx := 62) (ci := 8) (k := 9) (r := 0) (by decide +kernel) rfl rfl rfl (?_ : AW _ _ _ _ 4 _ _ _ _ _ _)
  refine AW.aload_n (i := 0) (a := 0) (by decide +kernel) rfl (?_ : AW _ _ _ _ 5 _ _ _ _ _ _)
  refine AW.getR (idx := 19) (ci := 8) (k := 1) (r := 0) (by decide +kernel) rfl rfl rfl (?_ : AW _ _ _ _ 8 _ _ _ _ _ _)
  refine AW.callVm (g := cf_Fund_copyFrom) (Sg := S_Fund2) (pl := [109, 110, 111, 112, 3, 4, 5, 6]) (av := [zR (some 4)]) (b0 := 0) (ci := 1) (idx := 86) (n := 1) (st := []) (by decide +kernel) (fun l hl r hr => c_Fund_copyFrom l hl  _ r hr) sb_67 rfl cal_Fund_copyFrom rfl (zw4 zm_X8_86 zi_yX1_copyFrom zs_yX1_copyFrom zn_X1) rfl rfl ⟨by decide, by decide, by decide, by decide⟩ (Nat.le_of_ble_eq_true rfl) (Or.inl rfl) (fun v μ1 => AW.rV (?_ : AW _ _ _ _ 11 _ _ _ _ _ _) v)
  refine AW.aload_n (i := 0) (a := 0) (by decide +kernel) rfl (?_ : AW _ _ _ _ 12 _ _ _ _ _ _)
  refine AW.getR (idx := 65) (ci := 8) (k := 10) (r := 0) (by decide +kernel) rfl rfl rfl (?_ : AW _ _ _ _ 15 _ _ _ _ _ _)
  refine AW.aload_n (i := 0) (a := 0) (by decide +kernel) rfl (?_ : AW _ _ _ _ 16 _ _ _ _ _ _)
  refine AW.getR (idx := 29) (ci := 8) (k := 3) (r := 0) (by decide +kernel) rfl rfl rfl (?_ : AW _ _ _ _ 19 _ _ _ _ _ _)
  refine AW.callVm (g := cf_Journal_copyFrom) (Sg := S_Journal) (pl := [113, 114, 11, 12]) (av := [zR (some 2)]) (b0 := 0) (ci := 2) (idx := 300) (n := 1) (st := []) (by decide +kernel) (fun l hl r hr => c_Journal_copyFrom l hl  _ r hr) sb_68 rfl cal_Journal_copyFrom rfl (zw4 zm_X8_300 zi_yX2_copyFrom zs_yX2_copyFrom zn_X2) rfl rfl ⟨by decide, by decide, by decide, by decide⟩ (Nat.le_of_ble_eq_true rfl) (Or.inl rfl) (fun v μ3 => AW.rV (?_ : AW _ _ _ _ 22 _ _ _ _ _ _) v)
  refine AW.aload_n (i := 0) (a := 0) (by decide +kernel) rfl (?_ : AW _ _ _ _ 23 _ _ _ _ _ _)
  refine AW.iconst (n := 1) (by decide +kernel) (?_ : AW _ _ _ _ 24 _ _ _ _ _ _)
  refine AW.putb1L (idx := 303) (ci := 8) (k := 11) (r := 0) (by decide +kernel) rfl rfl rfl (by decide) (fun μ5 => (?_ : AW _ _ _ _ 27 _ _ _ _ _ _))
  exact AW.retv (by decide +kernel) rfl (by decide) (by decide)
theorem c_Ledger_image (l : Launch) (hl : l.stackTraces = false) (μ : ZMem) (r : ZRes) (h : F_Ledger_image μ = some r) : ZC l cf_Ledger_image S_Ledger S_Ledger [zR (some 0)] μ r := ZC.of hl (by decide +kernel) rfl rfl zft_X8_ok (Nat.le_of_ble_eq_true rfl) h (w_Ledger_image μ)
theorem sb_69 : zSub S_Ledger [3, 4, 5, 6, 109, 110, 111, 112] S_Fund2 := ⟨rfl, by decide +kernel, by decide +kernel, rfl⟩
theorem sb_70 : zSub S_Ledger [11, 12, 113, 114] S_Journal := ⟨rfl, by decide +kernel, by decide +kernel, rfl⟩
/-! WeirLedger.back()Z -/
def cf_Ledger_back : ZCf := (yX8_back, cX8_back, 1, some .boolean, [], 8, 0, 0, zft_X8, none)
theorem cal_Ledger_back : zCallee cf_Ledger_back 0 := ⟨rfl, zc_yX8_back, by decide, by decide, by decide +kernel⟩
def F_Ledger_back (μ : ZMem) : Option ZRes := if w32 (μ 0 11) = 0 then (some (.inr (some (zI 0)), μ)) else (zCm [3, 4, 5, 6, 109, 110, 111, 112] μ (F_Fund_copyFrom  (zVw [3, 4, 5, 6, 109, 110, 111, 112] μ)) (zkV (fun μ1 => zCm [11, 12, 113, 114] μ1 (F_Journal_copyFrom  (zVw [11, 12, 113, 114] μ1)) (zkV (fun μ3 => zC (F_Ledger_goThroughAnew  μ3) (zkV (fun μ5 => some (.inr (some (zI 1)), μ5))) zX0)) zX0)) zX0)
set_option maxRecDepth 100000 in
theorem w_Ledger_back (μ : ZMem) : AW cf_Ledger_back S_Ledger.length S_Ledger S_Ledger 0 [(0, zR (some 0))] [] μ 0 0 (F_Ledger_back μ) := by
  unfold F_Ledger_back
  refine AW.aload_n (i := 0) (a := 0) (by decide +kernel) rfl (?_ : AW _ _ _ _ 1 _ _ _ _ _ _)
  refine AW.getZ (idx := 303) (ci := 8) (k := 11) (r := 0) (by decide +kernel) rfl rfl rfl (?_ : AW _ _ _ _ 4 _ _ _ _ _ _)
  refine AW.if_ne (off := 5) (tgt := 9) (by decide +kernel) (by decide) (fun _ => ?_) (fun _ => ?_)
  · refine AW.iconst (n := 0) (by decide +kernel) (?_ : AW _ _ _ _ 8 _ _ _ _ _ _)
    exact AW.retb1 (by decide +kernel) rfl (by decide) (by decide) (by decide)
  · refine AW.aload_n (i := 0) (a := 0) (by decide +kernel) rfl (?_ : AW _ _ _ _ 10 _ _ _ _ _ _)
    refine AW.getR (idx := 19) (ci := 8) (k := 1) (r := 0) (by decide +kernel) rfl rfl rfl (?_ : AW _ _ _ _ 13 _ _ _ _ _ _)
    refine AW.aload_n (i := 0) (a := 0) (by decide +kernel) rfl (?_ : AW _ _ _ _ 14 _ _ _ _ _ _)
    refine AW.getR (idx := 62) (ci := 8) (k := 9) (r := 0) (by decide +kernel) rfl rfl rfl (?_ : AW _ _ _ _ 17 _ _ _ _ _ _)
    refine AW.callVm (g := cf_Fund_copyFrom) (Sg := S_Fund2) (pl := [3, 4, 5, 6, 109, 110, 111, 112]) (av := [zR (some 4)]) (b0 := 0) (ci := 1) (idx := 86) (n := 1) (st := []) (by decide +kernel) (fun l hl r hr => c_Fund_copyFrom l hl  _ r hr) sb_69 rfl cal_Fund_copyFrom rfl (zw4 zm_X8_86 zi_yX1_copyFrom zs_yX1_copyFrom zn_X1) rfl rfl ⟨by decide, by decide, by decide, by decide⟩ (Nat.le_of_ble_eq_true rfl) (Or.inl rfl) (fun v μ1 => AW.rV (?_ : AW _ _ _ _ 20 _ _ _ _ _ _) v)
    refine AW.aload_n (i := 0) (a := 0) (by decide +kernel) rfl (?_ : AW _ _ _ _ 21 _ _ _ _ _ _)
    refine AW.getR (idx := 29) (ci := 8) (k := 3) (r := 0) (by decide +kernel) rfl rfl rfl (?_ : AW _ _ _ _ 24 _ _ _ _ _ _)
    refine AW.aload_n (i := 0) (a := 0) (by decide +kernel) rfl (?_ : AW _ _ _ _ 25 _ _ _ _ _ _)
    refine AW.getR (idx := 65) (ci := 8) (k := 10) (r := 0) (by decide +kernel) rfl rfl rfl (?_ : AW _ _ _ _ 28 _ _ _ _ _ _)
    refine AW.callVm (g := cf_Journal_copyFrom) (Sg := S_Journal) (pl := [11, 12, 113, 114]) (av := [zR (some 2)]) (b0 := 0) (ci := 2) (idx := 300) (n := 1) (st := []) (by decide +kernel) (fun l hl r hr => c_Journal_copyFrom l hl  _ r hr) sb_70 rfl cal_Journal_copyFrom rfl (zw4 zm_X8_300 zi_yX2_copyFrom zs_yX2_copyFrom zn_X2) rfl rfl ⟨by decide, by decide, by decide, by decide⟩ (Nat.le_of_ble_eq_true rfl) (Or.inl rfl) (fun v μ3 => AW.rV (?_ : AW _ _ _ _ 31 _ _ _ _ _ _) v)
    refine AW.aload_n (i := 0) (a := 0) (by decide +kernel) rfl (?_ : AW _ _ _ _ 32 _ _ _ _ _ _)
    refine AW.callVw (g := cf_Ledger_goThroughAnew) (av := []) (b0 := 0) (ci := 8) (idx := 93) (n := 0) (st := []) (by decide +kernel) (fun l hl r hr => c_Ledger_goThroughAnew l hl  _ r hr) S_Ledger_wf rfl cal_Ledger_goThroughAnew rfl (zw4 zm_X8_93 zi_yX8_goThroughAnew zs_yX8_goThroughAnew zn_X8) rfl rfl ⟨by decide, by decide, by decide, by decide⟩ (Nat.le_of_ble_eq_true rfl) (Or.inl rfl) (fun v μ5 => AW.kV (?_ : AW _ _ _ _ 35 _ _ _ _ _ _) v)
    refine AW.iconst (n := 1) (by decide +kernel) (?_ : AW _ _ _ _ 36 _ _ _ _ _ _)
    exact AW.retb1 (by decide +kernel) rfl (by decide) (by decide) (by decide)
theorem c_Ledger_back (l : Launch) (hl : l.stackTraces = false) (μ : ZMem) (r : ZRes) (h : F_Ledger_back μ = some r) : ZC l cf_Ledger_back S_Ledger S_Ledger [zR (some 0)] μ r := ZC.of hl (by decide +kernel) rfl rfl zft_X8_ok (Nat.le_of_ble_eq_true rfl) h (w_Ledger_back μ)
/-! WeirLedger.count(I)I -/
def cf_Ledger_count : ZCf := (yX8_count, cX8_count, 2, some .int, [], 2, 0, 0, zft_X8, none)
theorem cal_Ledger_count : zCallee cf_Ledger_count 1 := ⟨rfl, zc_yX8_count, by decide, by decide, by decide +kernel⟩
def F_Ledger_count (a1 : Int) (μ : ZMem) : Option ZRes := if w32 a1 = 0 then (some (.inr (some (zI (μ 3 3))), μ)) else (if w32 a1 = 1 then (some (.inr (some (zI (μ 3 4))), μ)) else (if w32 a1 = 2 then (some (.inr (some (zI (μ 14 6))), μ)) else (if w32 a1 = 3 then (some (.inr (some (zI (μ 11 1))), μ)) else (if w32 a1 = 4 then (if w32 (μ 14 7) = 0 then (some (.inr (some (zI 0)), μ)) else (some (.inr (some (zI 1)), μ))) else (some (.inr (some (zI (-1))), μ))))))
set_option maxRecDepth 100000 in
theorem w_Ledger_count (a1 : Int) (μ : ZMem) : AW cf_Ledger_count S_Ledger.length S_Ledger S_Ledger 0 [(0, zR (some 0)), (1, zI a1)] [] μ 0 0 (F_Ledger_count a1 μ) := by
  unfold F_Ledger_count
  refine AW.iload_n (i := 1) (a := a1) (by decide +kernel) rfl (?_ : AW _ _ _ _ 1 _ _ _ _ _ _)
  refine AW.tswC (dflt := 89) (lo := 0) (hi := 4) (offs := #[35, 43, 51, 62, 70]) (len := 35) (k := 0) (off := 35) (tgt := 36) (by decide +kernel) (by decide) (by decide) rfl (by decide) (fun _ => ?_) (fun h1 => ?_)
  · refine AW.aload_n (i := 0) (a := 0) (by decide +kernel) rfl (?_ : AW _ _ _ _ 37 _ _ _ _ _ _)
    refine AW.getR (idx := 19) (ci := 8) (k := 1) (r := 0) (by decide +kernel) rfl rfl rfl (?_ : AW _ _ _ _ 40 _ _ _ _ _ _)
    refine AW.getI (idx := 96) (ci := 1) (k := 3) (r := 3) (by decide +kernel) rfl rfl rfl (?_ : AW _ _ _ _ 43 _ _ _ _ _ _)
    exact AW.reti (by decide +kernel) rfl (by decide) (by decide)
  refine AW.tswC (dflt := 89) (lo := 0) (hi := 4) (offs := #[35, 43, 51, 62, 70]) (len := 35) (k := 1) (off := 43) (tgt := 44) (by decide +kernel) (by decide) (by decide) rfl (by decide) (fun _ => ?_) (fun h2 => ?_)
  · refine AW.aload_n (i := 0) (a := 0) (by decide +kernel) rfl (?_ : AW _ _ _ _ 45 _ _ _ _ _ _)
    refine AW.getR (idx := 19) (ci := 8) (k := 1) (r := 0) (by decide +kernel) rfl rfl rfl (?_ : AW _ _ _ _ 48 _ _ _ _ _ _)
    refine AW.getI (idx := 306) (ci := 1) (k := 4) (r := 3) (by decide +kernel) rfl rfl rfl (?_ : AW _ _ _ _ 51 _ _ _ _ _ _)
    exact AW.reti (by decide +kernel) rfl (by decide) (by decide)
  refine AW.tswC (dflt := 89) (lo := 0) (hi := 4) (offs := #[35, 43, 51, 62, 70]) (len := 35) (k := 2) (off := 51) (tgt := 52) (by decide +kernel) (by decide) (by decide) rfl (by decide) (fun _ => ?_) (fun h3 => ?_)
  · refine AW.aload_n (i := 0) (a := 0) (by decide +kernel) rfl (?_ : AW _ _ _ _ 53 _ _ _ _ _ _)
    refine AW.getR (idx := 38) (ci := 8) (k := 4) (r := 0) (by decide +kernel) rfl rfl rfl (?_ : AW _ _ _ _ 56 _ _ _ _ _ _)
    refine AW.getR (idx := 152) (ci := 5) (k := 0) (r := 13) (by decide +kernel) rfl rfl rfl (?_ : AW _ _ _ _ 59 _ _ _ _ _ _)
    refine AW.getI (idx := 244) (ci := 0) (k := 6) (r := 14) (by decide +kernel) rfl rfl rfl (?_ : AW _ _ _ _ 62 _ _ _ _ _ _)
    exact AW.reti (by decide +kernel) rfl (by decide) (by decide)
  refine AW.tswC (dflt := 89) (lo := 0) (hi := 4) (offs := #[35, 43, 51, 62, 70]) (len := 35) (k := 3) (off := 62) (tgt := 63) (by decide +kernel) (by decide) (by decide) rfl (by decide) (fun _ => ?_) (fun h4 => ?_)
  · refine AW.aload_n (i := 0) (a := 0) (by decide +kernel) rfl (?_ : AW _ _ _ _ 64 _ _ _ _ _ _)
    refine AW.getR (idx := 29) (ci := 8) (k := 3) (r := 0) (by decide +kernel) rfl rfl rfl (?_ : AW _ _ _ _ 67 _ _ _ _ _ _)
    refine AW.getI (idx := 90) (ci := 2) (k := 1) (r := 11) (by decide +kernel) rfl rfl rfl (?_ : AW _ _ _ _ 70 _ _ _ _ _ _)
    exact AW.reti (by decide +kernel) rfl (by decide) (by decide)
  refine AW.tswC (dflt := 89) (lo := 0) (hi := 4) (offs := #[35, 43, 51, 62, 70]) (len := 35) (k := 4) (off := 70) (tgt := 71) (by decide +kernel) (by decide) (by decide) rfl (by decide) (fun _ => ?_) (fun h5 => ?_)
  · refine AW.aload_n (i := 0) (a := 0) (by decide +kernel) rfl (?_ : AW _ _ _ _ 72 _ _ _ _ _ _)
    refine AW.getR (idx := 38) (ci := 8) (k := 4) (r := 0) (by decide +kernel) rfl rfl rfl (?_ : AW _ _ _ _ 75 _ _ _ _ _ _)
    refine AW.getR (idx := 152) (ci := 5) (k := 0) (r := 13) (by decide +kernel) rfl rfl rfl (?_ : AW _ _ _ _ 78 _ _ _ _ _ _)
    refine AW.getZ (idx := 247) (ci := 0) (k := 7) (r := 14) (by decide +kernel) rfl rfl rfl (?_ : AW _ _ _ _ 81 _ _ _ _ _ _)
    refine AW.if_eq (off := 7) (tgt := 88) (by decide +kernel) (by decide) (fun _ => ?_) (fun _ => ?_)
    · refine AW.iconst (n := 0) (by decide +kernel) (?_ : AW _ _ _ _ 89 _ _ _ _ _ _)
      exact AW.reti (by decide +kernel) rfl (by decide) (by decide)
    · refine AW.iconst (n := 1) (by decide +kernel) (?_ : AW _ _ _ _ 85 _ _ _ _ _ _)
      refine AW.goto (off := 4) (tgt := 89) (by decide +kernel) (by decide) ?_
      exact AW.reti (by decide +kernel) rfl (by decide) (by decide)
  refine AW.tswD (dflt := 89) (lo := 0) (hi := 4) (offs := #[35, 43, 51, 62, 70]) (len := 35) (tgt := 90) (by decide +kernel) (by omega) (by decide) ?_
  refine AW.iconst (n := -1) (by decide +kernel) (?_ : AW _ _ _ _ 91 _ _ _ _ _ _)
  exact AW.reti (by decide +kernel) rfl (by decide) (by decide)
theorem c_Ledger_count (l : Launch) (hl : l.stackTraces = false) (a1 : Int) (μ : ZMem) (r : ZRes) (h : F_Ledger_count a1 μ = some r) : ZC l cf_Ledger_count S_Ledger S_Ledger [zR (some 0), zI a1] μ r := ZC.of hl (by decide +kernel) rfl rfl zft_X8_ok (Nat.le_of_ble_eq_true rfl) h (w_Ledger_count a1 μ)
