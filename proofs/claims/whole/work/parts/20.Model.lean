def S_Model : List ZSh := [.inl (9, [(0, none), (2, some 1), (2, some 2), (2, some 3), (2, some 4), (0, none), (0, none), (2, some 5), (2, some 6), (2, some 7), (2, some 8), (0, none), (2, some 9), (2, some 10), (0, none), (2, some 11), (2, some 12), (2, some 13), (2, some 14), (3, none), (2, some 15), (0, none), (0, none), (0, none), (0, none), (2, some 16), (2, some 17), (2, some 18), (0, none), (0, none), (3, none), (2, some 19), (2, some 20), (2, some 21), (2, some 22), (1, none), (1, none), (2, some 23), (2, some 24), (0, none), (1, none)]), .inr (0, 7, []), .inr (0, 7, []), .inr (0, 6, []), .inr (0, 6, []), .inr (1, 92, []), .inr (1, 1206, []), .inr (1, 1206, []), .inr (0, 300, []), .inr (1, 61, []), .inr (1, 61, []), .inr (1, 92, []), .inr (1, 1206, []), .inr (1, 1206, []), .inr (0, 322, []), .inr (0, 400, []), .inr (0, 7, []), .inr (0, 6, []), .inr (0, 6, []), .inr (1, 6, []), .inr (1, 6, []), .inr (1, 6, []), .inr (1, 4, []), .inr (0, 6, []), .inr (0, 6, [])]
theorem S_Model_wf : zWfS S_Model.length S_Model = true ∧ Nat.ble S_Model.length 1000 = true := ⟨by decide +kernel, rfl⟩
/-! WeirLedgerModel.thrown()I -/
def cf_Model_thrown : ZCf := (yX9_thrown, cX9_thrown, 1, some .int, [], 2, 0, 0, zft_X9, none)
theorem cal_Model_thrown : zCallee cf_Model_thrown 0 := ⟨rfl, zc_yX9_thrown, by decide, by decide, by decide +kernel⟩
def F_Model_thrown (μ : ZMem) : Option ZRes := some (.inr (some (zI (μ 0 0))), μ)
set_option maxRecDepth 100000 in
theorem w_Model_thrown (μ : ZMem) : AW cf_Model_thrown S_Model.length S_Model S_Model 0 [(0, zR (some 0))] [] μ 0 0 (F_Model_thrown μ) := by
  unfold F_Model_thrown
  refine AW.aload_n (i := 0) (a := 0) (by decide +kernel) rfl (?_ : AW _ _ _ _ 1 _ _ _ _ _ _)
  refine AW.getI (idx := 93) (ci := 9) (k := 0) (r := 0) (by decide +kernel) rfl rfl rfl (?_ : AW _ _ _ _ 4 _ _ _ _ _ _)
  exact AW.reti (by decide +kernel) rfl (by decide) (by decide)
theorem c_Model_thrown (l : Launch) (hl : l.stackTraces = false) (μ : ZMem) (r : ZRes) (h : F_Model_thrown μ = some r) : ZC l cf_Model_thrown S_Model S_Model [zR (some 0)] μ r := ZC.of hl (by decide +kernel) rfl rfl zft_X9_ok (Nat.le_of_ble_eq_true rfl) h (w_Model_thrown μ)
/-! WeirLedgerModel.isIn(JJJ)Z -/
def cf_Model_isIn : ZCf := (yX9_isIn, cX9_isIn, 6, some .boolean, [], 2, 0, 0, zft_X9, none)
theorem cal_Model_isIn : zCallee cf_Model_isIn 3 := ⟨rfl, zc_yX9_isIn, by decide, by decide, by decide +kernel⟩
def F_Model_isIn (a0 : Int) (a1 : Int) (a2 : Int) (μ : ZMem) : Option ZRes := if w64 a0 < w64 a1 then (some (.inr (some (zI 0)), μ)) else (if w64 a2 < w64 a0 then (some (.inr (some (zI 0)), μ)) else (some (.inr (some (zI 1)), μ)))
set_option maxRecDepth 100000 in
theorem w_Model_isIn (a0 : Int) (a1 : Int) (a2 : Int) (μ : ZMem) : AW cf_Model_isIn S_E.length S_E S_E 0 [(0, zJ a0), (2, zJ a1), (4, zJ a2)] [] μ 0 0 (F_Model_isIn a0 a1 a2 μ) := by
  unfold F_Model_isIn
  refine AW.lload_n (i := 0) (a := a0) (by decide +kernel) rfl (?_ : AW _ _ _ _ 1 _ _ _ _ _ _)
  refine AW.lload_n (i := 2) (a := a1) (by decide +kernel) rfl (?_ : AW _ _ _ _ 2 _ _ _ _ _ _)
  refine AW.lcmp_lt (off := 14) (tgt := 17) (by decide +kernel) (by decide +kernel) (by decide) (fun _ => ?_) (fun _ => ?_)
  · refine AW.iconst (n := 0) (by decide +kernel) (?_ : AW _ _ _ _ 18 _ _ _ _ _ _)
    exact AW.retb1 (by decide +kernel) rfl (by decide) (by decide) (by decide)
  · refine AW.lload_n (i := 0) (a := a0) (by decide +kernel) rfl (?_ : AW _ _ _ _ 7 _ _ _ _ _ _)
    refine AW.lload (i := 4) (a := a2) (by decide +kernel) rfl (?_ : AW _ _ _ _ 9 _ _ _ _ _ _)
    refine AW.lcmp_gt (off := 7) (tgt := 17) (by decide +kernel) (by decide +kernel) (by decide) (fun _ => ?_) (fun _ => ?_)
    · refine AW.iconst (n := 0) (by decide +kernel) (?_ : AW _ _ _ _ 18 _ _ _ _ _ _)
      exact AW.retb1 (by decide +kernel) rfl (by decide) (by decide) (by decide)
    · refine AW.iconst (n := 1) (by decide +kernel) (?_ : AW _ _ _ _ 14 _ _ _ _ _ _)
      refine AW.goto (off := 4) (tgt := 18) (by decide +kernel) (by decide) ?_
      exact AW.retb1 (by decide +kernel) rfl (by decide) (by decide) (by decide)
theorem c_Model_isIn (l : Launch) (hl : l.stackTraces = false) (a0 : Int) (a1 : Int) (a2 : Int) (μ : ZMem) (r : ZRes) (h : F_Model_isIn a0 a1 a2 μ = some r) : ZC l cf_Model_isIn S_E S_E [zJ a0, zJ a1, zJ a2] μ r := ZC.of hl (by decide +kernel) rfl rfl zft_X9_ok (Nat.le_of_ble_eq_true rfl) h (w_Model_isIn a0 a1 a2 μ)
/-! WeirLedgerModel.lesser(JJ)J -/
def cf_Model_lesser : ZCf := (yX9_lesser, cX9_lesser, 4, some .long, [], 2, 0, 0, zft_X9, none)
theorem cal_Model_lesser : zCallee cf_Model_lesser 2 := ⟨rfl, zc_yX9_lesser, by decide, by decide, by decide +kernel⟩
def F_Model_lesser (a0 : Int) (a1 : Int) (μ : ZMem) : Option ZRes := if w64 a1 ≤ w64 a0 then (some (.inr (some (zJ a1)), μ)) else (some (.inr (some (zJ a0)), μ))
set_option maxRecDepth 100000 in
theorem w_Model_lesser (a0 : Int) (a1 : Int) (μ : ZMem) : AW cf_Model_lesser S_E.length S_E S_E 0 [(0, zJ a0), (2, zJ a1)] [] μ 0 0 (F_Model_lesser a0 a1 μ) := by
  unfold F_Model_lesser
  refine AW.lload_n (i := 0) (a := a0) (by decide +kernel) rfl (?_ : AW _ _ _ _ 1 _ _ _ _ _ _)
  refine AW.lload_n (i := 2) (a := a1) (by decide +kernel) rfl (?_ : AW _ _ _ _ 2 _ _ _ _ _ _)
  refine AW.lcmp_ge (off := 7) (tgt := 10) (by decide +kernel) (by decide +kernel) (by decide) (fun _ => ?_) (fun _ => ?_)
  · refine AW.lload_n (i := 2) (a := a1) (by decide +kernel) rfl (?_ : AW _ _ _ _ 11 _ _ _ _ _ _)
    exact AW.retl (by decide +kernel) rfl (by decide) (by decide)
  · refine AW.lload_n (i := 0) (a := a0) (by decide +kernel) rfl (?_ : AW _ _ _ _ 7 _ _ _ _ _ _)
    refine AW.goto (off := 4) (tgt := 11) (by decide +kernel) (by decide) ?_
    exact AW.retl (by decide +kernel) rfl (by decide) (by decide)
theorem c_Model_lesser (l : Launch) (hl : l.stackTraces = false) (a0 : Int) (a1 : Int) (μ : ZMem) (r : ZRes) (h : F_Model_lesser a0 a1 μ = some r) : ZC l cf_Model_lesser S_E S_E [zJ a0, zJ a1] μ r := ZC.of hl (by decide +kernel) rfl rfl zft_X9_ok (Nat.le_of_ble_eq_true rfl) h (w_Model_lesser a0 a1 μ)
/-! WeirLedgerModel.greater(JJ)J -/
def cf_Model_greater : ZCf := (yX9_greater, cX9_greater, 4, some .long, [], 2, 0, 0, zft_X9, none)
theorem cal_Model_greater : zCallee cf_Model_greater 2 := ⟨rfl, zc_yX9_greater, by decide, by decide, by decide +kernel⟩
def F_Model_greater (a0 : Int) (a1 : Int) (μ : ZMem) : Option ZRes := if w64 a0 ≤ w64 a1 then (some (.inr (some (zJ a1)), μ)) else (some (.inr (some (zJ a0)), μ))
set_option maxRecDepth 100000 in
theorem w_Model_greater (a0 : Int) (a1 : Int) (μ : ZMem) : AW cf_Model_greater S_E.length S_E S_E 0 [(0, zJ a0), (2, zJ a1)] [] μ 0 0 (F_Model_greater a0 a1 μ) := by
  unfold F_Model_greater
  refine AW.lload_n (i := 0) (a := a0) (by decide +kernel) rfl (?_ : AW _ _ _ _ 1 _ _ _ _ _ _)
  refine AW.lload_n (i := 2) (a := a1) (by decide +kernel) rfl (?_ : AW _ _ _ _ 2 _ _ _ _ _ _)
  refine AW.lcmp_le (off := 7) (tgt := 10) (by decide +kernel) (by decide +kernel) (by decide) (fun _ => ?_) (fun _ => ?_)
  · refine AW.lload_n (i := 2) (a := a1) (by decide +kernel) rfl (?_ : AW _ _ _ _ 11 _ _ _ _ _ _)
    exact AW.retl (by decide +kernel) rfl (by decide) (by decide)
  · refine AW.lload_n (i := 0) (a := a0) (by decide +kernel) rfl (?_ : AW _ _ _ _ 7 _ _ _ _ _ _)
    refine AW.goto (off := 4) (tgt := 11) (by decide +kernel) (by decide) ?_
    exact AW.retl (by decide +kernel) rfl (by decide) (by decide)
theorem c_Model_greater (l : Launch) (hl : l.stackTraces = false) (a0 : Int) (a1 : Int) (μ : ZMem) (r : ZRes) (h : F_Model_greater a0 a1 μ = some r) : ZC l cf_Model_greater S_E S_E [zJ a0, zJ a1] μ r := ZC.of hl (by decide +kernel) rfl rfl zft_X9_ok (Nat.le_of_ble_eq_true rfl) h (w_Model_greater a0 a1 μ)
/-! WeirLedgerModel.placeOf(II)I -/
def cf_Model_placeOf : ZCf := (yX9_placeOf, cX9_placeOf, 2, some .int, [], 2, 0, 0, zft_X9, none)
theorem cal_Model_placeOf : zCallee cf_Model_placeOf 2 := ⟨rfl, zc_yX9_placeOf, by decide, by decide, by decide +kernel⟩
def F_Model_placeOf (a0 : Int) (a1 : Int) (μ : ZMem) : Option ZRes := some (.inr (some (zI ((0 + (5 * a0)) + a1))), μ)
set_option maxRecDepth 100000 in
theorem w_Model_placeOf (a0 : Int) (a1 : Int) (μ : ZMem) : AW cf_Model_placeOf S_E.length S_E S_E 0 [(0, zI a0), (1, zI a1)] [] μ 0 0 (F_Model_placeOf a0 a1 μ) := by
  unfold F_Model_placeOf
  refine AW.iconst (n := 0) (by decide +kernel) (?_ : AW _ _ _ _ 1 _ _ _ _ _ _)
  refine AW.iconst (n := 5) (by decide +kernel) (?_ : AW _ _ _ _ 2 _ _ _ _ _ _)
  refine AW.iload_n (i := 0) (a := a0) (by decide +kernel) rfl (?_ : AW _ _ _ _ 3 _ _ _ _ _ _)
  refine AW.imul (by decide +kernel) (?_ : AW _ _ _ _ 4 _ _ _ _ _ _)
  refine AW.iadd (by decide +kernel) (?_ : AW _ _ _ _ 5 _ _ _ _ _ _)
  refine AW.iload_n (i := 1) (a := a1) (by decide +kernel) rfl (?_ : AW _ _ _ _ 6 _ _ _ _ _ _)
  refine AW.iadd (by decide +kernel) (?_ : AW _ _ _ _ 7 _ _ _ _ _ _)
  exact AW.reti (by decide +kernel) rfl (by decide) (by decide)
theorem c_Model_placeOf (l : Launch) (hl : l.stackTraces = false) (a0 : Int) (a1 : Int) (μ : ZMem) (r : ZRes) (h : F_Model_placeOf a0 a1 μ = some r) : ZC l cf_Model_placeOf S_E S_E [zI a0, zI a1] μ r := ZC.of hl (by decide +kernel) rfl rfl zft_X9_ok (Nat.le_of_ble_eq_true rfl) h (w_Model_placeOf a0 a1 μ)
/-! WeirLedgerModel.dealAt(II)I -/
def cf_Model_dealAt : ZCf := (yX9_dealAt, cX9_dealAt, 2, some .int, [], 2, 0, 0, zft_X9, none)
theorem cal_Model_dealAt : zCallee cf_Model_dealAt 2 := ⟨rfl, zc_yX9_dealAt, by decide, by decide, by decide +kernel⟩
def F_Model_dealAt (a0 : Int) (a1 : Int) (μ : ZMem) : Option ZRes := some (.inr (some (zI ((30 + (4 * a0)) + a1))), μ)
set_option maxRecDepth 100000 in
theorem w_Model_dealAt (a0 : Int) (a1 : Int) (μ : ZMem) : AW cf_Model_dealAt S_E.length S_E S_E 0 [(0, zI a0), (1, zI a1)] [] μ 0 0 (F_Model_dealAt a0 a1 μ) := by
  unfold F_Model_dealAt
  refine AW.bipush (n := 30) (by decide +kernel) (by decide +kernel) (?_ : AW _ _ _ _ 2 _ _ _ _ _ _)
  refine AW.iconst (n := 4) (by decide +kernel) (?_ : AW _ _ _ _ 3 _ _ _ _ _ _)
  refine AW.iload_n (i := 0) (a := a0) (by decide +kernel) rfl (?_ : AW _ _ _ _ 4 _ _ _ _ _ _)
  refine AW.imul (by decide +kernel) (?_ : AW _ _ _ _ 5 _ _ _ _ _ _)
  refine AW.iadd (by decide +kernel) (?_ : AW _ _ _ _ 6 _ _ _ _ _ _)
  refine AW.iload_n (i := 1) (a := a1) (by decide +kernel) rfl (?_ : AW _ _ _ _ 7 _ _ _ _ _ _)
  refine AW.iadd (by decide +kernel) (?_ : AW _ _ _ _ 8 _ _ _ _ _ _)
  exact AW.reti (by decide +kernel) rfl (by decide) (by decide)
theorem c_Model_dealAt (l : Launch) (hl : l.stackTraces = false) (a0 : Int) (a1 : Int) (μ : ZMem) (r : ZRes) (h : F_Model_dealAt a0 a1 μ = some r) : ZC l cf_Model_dealAt S_E S_E [zI a0, zI a1] μ r := ZC.of hl (by decide +kernel) rfl rfl zft_X9_ok (Nat.le_of_ble_eq_true rfl) h (w_Model_dealAt a0 a1 μ)
/-! WeirLedgerModel.ladderAt(II)I -/
def cf_Model_ladderAt : ZCf := (yX9_ladderAt, cX9_ladderAt, 2, some .int, [], 2, 0, 0, zft_X9, none)
theorem cal_Model_ladderAt : zCallee cf_Model_ladderAt 2 := ⟨rfl, zc_yX9_ladderAt, by decide, by decide, by decide +kernel⟩
def F_Model_ladderAt (a0 : Int) (a1 : Int) (μ : ZMem) : Option ZRes := some (.inr (some (zI ((54 + (4 * a0)) + a1))), μ)
set_option maxRecDepth 100000 in
theorem w_Model_ladderAt (a0 : Int) (a1 : Int) (μ : ZMem) : AW cf_Model_ladderAt S_E.length S_E S_E 0 [(0, zI a0), (1, zI a1)] [] μ 0 0 (F_Model_ladderAt a0 a1 μ) := by
  unfold F_Model_ladderAt
  refine AW.bipush (n := 54) (by decide +kernel) (by decide +kernel) (?_ : AW _ _ _ _ 2 _ _ _ _ _ _)
  refine AW.iconst (n := 4) (by decide +kernel) (?_ : AW _ _ _ _ 3 _ _ _ _ _ _)
  refine AW.iload_n (i := 0) (a := a0) (by decide +kernel) rfl (?_ : AW _ _ _ _ 4 _ _ _ _ _ _)
  refine AW.imul (by decide +kernel) (?_ : AW _ _ _ _ 5 _ _ _ _ _ _)
  refine AW.iadd (by decide +kernel) (?_ : AW _ _ _ _ 6 _ _ _ _ _ _)
  refine AW.iload_n (i := 1) (a := a1) (by decide +kernel) rfl (?_ : AW _ _ _ _ 7 _ _ _ _ _ _)
  refine AW.iadd (by decide +kernel) (?_ : AW _ _ _ _ 8 _ _ _ _ _ _)
  exact AW.reti (by decide +kernel) rfl (by decide) (by decide)
theorem c_Model_ladderAt (l : Launch) (hl : l.stackTraces = false) (a0 : Int) (a1 : Int) (μ : ZMem) (r : ZRes) (h : F_Model_ladderAt a0 a1 μ = some r) : ZC l cf_Model_ladderAt S_E S_E [zI a0, zI a1] μ r := ZC.of hl (by decide +kernel) rfl rfl zft_X9_ok (Nat.le_of_ble_eq_true rfl) h (w_Model_ladderAt a0 a1 μ)
/-! WeirLedgerModel.isInvestor(I)Z -/
def cf_Model_isInvestor : ZCf := (yX9_isInvestor, cX9_isInvestor, 2, some .boolean, [], 3, 0, 0, zft_X9, none)
theorem cal_Model_isInvestor : zCallee cf_Model_isInvestor 1 := ⟨rfl, zc_yX9_isInvestor, by decide, by decide, by decide +kernel⟩
def F_Model_isInvestor (a1 : Int) (μ : ZMem) : Option ZRes := zC (F_Model_isIn (w32 a1) 0 (w32 ((μ 0 5) - 1)) μ) (zkI (fun x2 _ => if x2 = 0 ∨ x2 = 1 then some (.inr (some (zI x2)), μ) else none)) zX0
set_option maxRecDepth 100000 in
theorem w_Model_isInvestor (a1 : Int) (μ : ZMem) : AW cf_Model_isInvestor S_Model.length S_Model S_Model 0 [(0, zR (some 0)), (1, zI a1)] [] μ 0 0 (F_Model_isInvestor a1 μ) := by
  unfold F_Model_isInvestor
  refine AW.iload_n (i := 1) (a := a1) (by decide +kernel) rfl (?_ : AW _ _ _ _ 1 _ _ _ _ _ _)
  refine AW.i2l (by decide +kernel) (?_ : AW _ _ _ _ 2 _ _ _ _ _ _)
  refine AW.lconst0 (by decide +kernel) (?_ : AW _ _ _ _ 3 _ _ _ _ _ _)
  refine AW.aload_n (i := 0) (a := 0) (by decide +kernel) rfl (?_ : AW _ _ _ _ 4 _ _ _ _ _ _)
  refine AW.getI (idx := 96) (ci := 9) (k := 5) (r := 0) (by decide +kernel) rfl rfl rfl (?_ : AW _ _ _ _ 7 _ _ _ _ _ _)
  refine AW.iconst (n := 1) (by decide +kernel) (?_ : AW _ _ _ _ 8 _ _ _ _ _ _)
  refine AW.isub (by decide +kernel) (?_ : AW _ _ _ _ 9 _ _ _ _ _ _)
  refine AW.i2l (by decide +kernel) (?_ : AW _ _ _ _ 10 _ _ _ _ _ _)
  refine AW.callP (g := cf_Model_isIn) (av := [zJ (w32 a1), zJ 0, zJ (w32 ((μ 0 5) - 1))]) (idx := 99) (n := 3) (st := []) (by decide +kernel) (fun l hl r hr => c_Model_isIn l hl (w32 a1) 0 (w32 ((μ 0 5) - 1)) _ r hr) rfl cal_Model_isIn rfl (zw3 zm_X9_99 zt_yX9_isIn zn_X9) ⟨by decide, by decide, by decide, by decide⟩ (Nat.le_of_ble_eq_true rfl) (fun v _ => AW.kI (fun x2 => (?_ : AW _ _ _ _ 13 _ _ _ _ _ _)) v)
  exact AW.retb (by decide +kernel) rfl (by decide) (by decide)
theorem c_Model_isInvestor (l : Launch) (hl : l.stackTraces = false) (a1 : Int) (μ : ZMem) (r : ZRes) (h : F_Model_isInvestor a1 μ = some r) : ZC l cf_Model_isInvestor S_Model S_Model [zR (some 0), zI a1] μ r := ZC.of hl (by decide +kernel) rfl rfl zft_X9_ok (Nat.le_of_ble_eq_true rfl) h (w_Model_isInvestor a1 μ)
/-! WeirLedgerModel.isDeal(I)Z -/
def cf_Model_isDeal : ZCf := (yX9_isDeal, cX9_isDeal, 2, some .boolean, [], 3, 0, 0, zft_X9, none)
theorem cal_Model_isDeal : zCallee cf_Model_isDeal 1 := ⟨rfl, zc_yX9_isDeal, by decide, by decide, by decide +kernel⟩
def F_Model_isDeal (a1 : Int) (μ : ZMem) : Option ZRes := zC (F_Model_isIn (w32 a1) 0 (w32 ((μ 0 6) - 1)) μ) (zkI (fun x2 _ => if x2 = 0 ∨ x2 = 1 then some (.inr (some (zI x2)), μ) else none)) zX0
set_option maxRecDepth 100000 in
theorem w_Model_isDeal (a1 : Int) (μ : ZMem) : AW cf_Model_isDeal S_Model.length S_Model S_Model 0 [(0, zR (some 0)), (1, zI a1)] [] μ 0 0 (F_Model_isDeal a1 μ) := by
  unfold F_Model_isDeal
  refine AW.iload_n (i := 1) (a := a1) (by decide +kernel) rfl (?_ : AW _ _ _ _ 1 _ _ _ _ _ _)
  refine AW.i2l (by decide +kernel) (?_ : AW _ _ _ _ 2 _ _ _ _ _ _)
  refine AW.lconst0 (by decide +kernel) (?_ : AW _ _ _ _ 3 _ _ _ _ _ _)
  refine AW.aload_n (i := 0) (a := 0) (by decide +kernel) rfl (?_ : AW _ _ _ _ 4 _ _ _ _ _ _)
  refine AW.getI (idx := 103) (ci := 9) (k := 6) (r := 0) (by decide +kernel) rfl rfl rfl (?_ : AW _ _ _ _ 7 _ _ _ _ _ _)
  refine AW.iconst (n := 1) (by decide +kernel) (?_ : AW _ _ _ _ 8 _ _ _ _ _ _)
  refine AW.isub (by decide +kernel) (?_ : AW _ _ _ _ 9 _ _ _ _ _ _)
  refine AW.i2l (by decide +kernel) (?_ : AW _ _ _ _ 10 _ _ _ _ _ _)
  refine AW.callP (g := cf_Model_isIn) (av := [zJ (w32 a1), zJ 0, zJ (w32 ((μ 0 6) - 1))]) (idx := 99) (n := 3) (st := []) (by decide +kernel) (fun l hl r hr => c_Model_isIn l hl (w32 a1) 0 (w32 ((μ 0 6) - 1)) _ r hr) rfl cal_Model_isIn rfl (zw3 zm_X9_99 zt_yX9_isIn zn_X9) ⟨by decide, by decide, by decide, by decide⟩ (Nat.le_of_ble_eq_true rfl) (fun v _ => AW.kI (fun x2 => (?_ : AW _ _ _ _ 13 _ _ _ _ _ _)) v)
  exact AW.retb (by decide +kernel) rfl (by decide) (by decide)
theorem c_Model_isDeal (l : Launch) (hl : l.stackTraces = false) (a1 : Int) (μ : ZMem) (r : ZRes) (h : F_Model_isDeal a1 μ = some r) : ZC l cf_Model_isDeal S_Model S_Model [zR (some 0), zI a1] μ r := ZC.of hl (by decide +kernel) rfl rfl zft_X9_ok (Nat.le_of_ble_eq_true rfl) h (w_Model_isDeal a1 μ)
/-! WeirLedgerModel.isExcused(II)Z -/
def cf_Model_isExcused : ZCf := (yX9_isExcused, cX9_isExcused, 3, some .boolean, [], 2, 0, 0, zft_X9, none)
theorem cal_Model_isExcused : zCallee cf_Model_isExcused 2 := ⟨rfl, zc_yX9_isExcused, by decide, by decide, by decide +kernel⟩
def F_Model_isExcused (a1 : Int) (a2 : Int) (μ : ZMem) : Option ZRes := if w32 a2 = w32 (-1) then (some (.inr (some (zI 0)), μ)) else (zRd μ 4 6 a2 (fun x1 => if w32 (zand (zshr x1 a1) 1) = w32 1 then (some (.inr (some (zI 1)), μ)) else (some (.inr (some (zI 0)), μ))))
set_option maxRecDepth 100000 in
theorem w_Model_isExcused (a1 : Int) (a2 : Int) (μ : ZMem) : AW cf_Model_isExcused S_Model.length S_Model S_Model 0 [(0, zR (some 0)), (1, zI a1), (2, zI a2)] [] μ 0 0 (F_Model_isExcused a1 a2 μ) := by
  unfold F_Model_isExcused
  refine AW.iload_n (i := 2) (a := a2) (by decide +kernel) rfl (?_ : AW _ _ _ _ 1 _ _ _ _ _ _)
  refine AW.iconst (n := -1) (by decide +kernel) (?_ : AW _ _ _ _ 2 _ _ _ _ _ _)
  refine AW.icmp_eq (off := 21) (tgt := 23) (by decide +kernel) (by decide) (fun _ => ?_) (fun _ => ?_)
  · refine AW.iconst (n := 0) (by decide +kernel) (?_ : AW _ _ _ _ 24 _ _ _ _ _ _)
    exact AW.retb1 (by decide +kernel) rfl (by decide) (by decide) (by decide)
  · refine AW.aload_n (i := 0) (a := 0) (by decide +kernel) rfl (?_ : AW _ _ _ _ 6 _ _ _ _ _ _)
    refine AW.getR (idx := 19) (ci := 9) (k := 4) (r := 0) (by decide +kernel) rfl rfl rfl (?_ : AW _ _ _ _ 9 _ _ _ _ _ _)
    refine AW.iload_n (i := 2) (a := a2) (by decide +kernel) rfl (?_ : AW _ _ _ _ 10 _ _ _ _ _ _)
    refine AW.iald (r := 4) (by decide +kernel) rfl (fun x1 => (?_ : AW _ _ _ _ 11 _ _ _ _ _ _))
    refine AW.iload_n (i := 1) (a := a1) (by decide +kernel) rfl (?_ : AW _ _ _ _ 12 _ _ _ _ _ _)
    refine AW.ishr (by decide +kernel) (?_ : AW _ _ _ _ 13 _ _ _ _ _ _)
    refine AW.iconst (n := 1) (by decide +kernel) (?_ : AW _ _ _ _ 14 _ _ _ _ _ _)
    refine AW.iand (by decide +kernel) (?_ : AW _ _ _ _ 15 _ _ _ _ _ _)
    refine AW.iconst (n := 1) (by decide +kernel) (?_ : AW _ _ _ _ 16 _ _ _ _ _ _)
    refine AW.icmp_ne (off := 7) (tgt := 23) (by decide +kernel) (by decide) (fun _ => ?_) (fun _ => ?_)
    · refine AW.iconst (n := 1) (by decide +kernel) (?_ : AW _ _ _ _ 20 _ _ _ _ _ _)
      refine AW.goto (off := 4) (tgt := 24) (by decide +kernel) (by decide) ?_
      exact AW.retb1 (by decide +kernel) rfl (by decide) (by decide) (by decide)
    · refine AW.iconst (n := 0) (by decide +kernel) (?_ : AW _ _ _ _ 24 _ _ _ _ _ _)
      exact AW.retb1 (by decide +kernel) rfl (by decide) (by decide) (by decide)
theorem c_Model_isExcused (l : Launch) (hl : l.stackTraces = false) (a1 : Int) (a2 : Int) (μ : ZMem) (r : ZRes) (h : F_Model_isExcused a1 a2 μ = some r) : ZC l cf_Model_isExcused S_Model S_Model [zR (some 0), zI a1, zI a2] μ r := ZC.of hl (by decide +kernel) rfl rfl zft_X9_ok (Nat.le_of_ble_eq_true rfl) h (w_Model_isExcused a1 a2 μ)
/-! WeirLedgerModel.uncalled(I)J -/
def cf_Model_uncalled : ZCf := (yX9_uncalled, cX9_uncalled, 5, some .long, [], 3, 0, 0, zft_X9, none)
theorem cal_Model_uncalled : zCallee cf_Model_uncalled 1 := ⟨rfl, zc_yX9_uncalled, by decide, by decide, by decide +kernel⟩
def J_Model_uncalled_40 (R : Int → Int → ZMem → Option ZRes) (K : Int → ZMem → Option ZRes) (c1 : Int) (u4 : Int) (y0 : Int) (y1 : Int) (μ : ZMem) : Option ZRes := zLet ((y1 + y0)) (fun x6 => zLet (u4 + 1) (fun x7 => R x6 x7 μ))
set_option maxRecDepth 100000 in
theorem j_Model_uncalled_40 {R : Int → Int → ZMem → Option ZRes} {K : Int → ZMem → Option ZRes} (c1 : Int) (hR : ∀ (v2 : Int) (v4 : Int) (μ : ZMem), AW cf_Model_uncalled S_Model.length S_Model S_Model 5 [(0, zR (some 0)), (1, zI c1), (2, zJ v2), (4, zI v4)] [] μ 0 0 (R v2 v4 μ)) (hK : ∀ (k2 : Int) (μ : ZMem), AW cf_Model_uncalled S_Model.length S_Model S_Model 48 [(2, zJ k2)] [] μ 0 0 (K k2 μ)) (u4 : Int) (y0 : Int) (y1 : Int) (μ : ZMem) : AW cf_Model_uncalled S_Model.length S_Model S_Model 40 [(0, zR (some 0)), (1, zI c1), (4, zI u4)] [zJ y0, zJ y1] μ 0 0 (J_Model_uncalled_40 R K c1 u4 y0 y1 μ) := by
  unfold J_Model_uncalled_40
  refine AW.ladd (by decide +kernel) (?_ : AW _ _ _ _ 41 _ _ _ _ _ _)
  refine AW.lstoreL_n (i := 2) (L' := fun x6 => [(2, zJ x6), (0, zR (some 0)), (1, zI c1), (4, zI u4)]) (by decide +kernel) (by decide) (fun _ => rfl) (fun x6 => (?_ : AW _ _ _ _ 42 _ _ _ _ _ _))
  refine AW.iincL (i := 4) (n := 1) (a := u4) (L' := fun x7 => [(4, zI x7), (2, zJ x6), (0, zR (some 0)), (1, zI c1)]) (by decide +kernel) rfl (by decide) (fun _ => rfl) (fun x7 => (?_ : AW _ _ _ _ 45 _ _ _ _ _ _))
  refine AW.goto (off := -40) (tgt := 5) (by decide +kernel) (by decide) ?_
  refine AW.sub (L' := [(0, zR (some 0)), (1, zI c1), (2, zJ x6), (4, zI x7)]) [2, 3, 1, 0] rfl ?_
  exact hR x6 x7 μ
def L_Model_uncalled_5 (c1 : Int) (K : Int → ZMem → Option ZRes) : Nat → Int → Int → ZMem → Option ZRes
  | 0, _, _, _ => none
  | n + 1, v2, v4, μ => if w32 (μ 0 5) ≤ w32 v4 then (K v2 μ) else (zC (F_Model_isExcused v4 c1 μ) (zkI (fun x2 μ1 => if w32 x2 = 0 then (zC (F_Model_placeOf v4 1 μ1) (zkI (fun x4 _ => zRd μ1 5 92 x4 (fun x5 => J_Model_uncalled_40 (fun v2 v4 μ => L_Model_uncalled_5 c1 K n v2 v4 μ) K c1 v4 x5 v2 μ1))) zX0) else (J_Model_uncalled_40 (fun v2 v4 μ => L_Model_uncalled_5 c1 K n v2 v4 μ) K c1 v4 0 v2 μ1))) zX0)
set_option maxRecDepth 100000 in
theorem l_Model_uncalled_5 {c1 : Int} {K : Int → ZMem → Option ZRes} (hK : ∀ (k2 : Int) (μ : ZMem), AW cf_Model_uncalled S_Model.length S_Model S_Model 48 [(2, zJ k2)] [] μ 0 0 (K k2 μ)) : ∀ (n : Nat) (v2 : Int) (v4 : Int) (μ : ZMem), AW cf_Model_uncalled S_Model.length S_Model S_Model 5 [(0, zR (some 0)), (1, zI c1), (2, zJ v2), (4, zI v4)] [] μ 0 0 (L_Model_uncalled_5 c1 K n v2 v4 μ) := by
  intro n
  induction n with
  | zero => intro v2 v4 μ; exact AW.noth
  | succ n ih =>
    intro v2 v4 μ
    rw [L_Model_uncalled_5]
    refine AW.iload (i := 4) (a := v4) (by decide +kernel) rfl (?_ : AW _ _ _ _ 7 _ _ _ _ _ _)
    refine AW.aload_n (i := 0) (a := 0) (by decide +kernel) rfl (?_ : AW _ _ _ _ 8 _ _ _ _ _ _)
    refine AW.getI (idx := 96) (ci := 9) (k := 5) (r := 0) (by decide +kernel) rfl rfl rfl (?_ : AW _ _ _ _ 11 _ _ _ _ _ _)
    refine AW.icmp_ge (off := 37) (tgt := 48) (by decide +kernel) (by decide) (fun _ => ?_) (fun _ => ?_)
    · refine AW.sub (L' := [(2, zJ v2)]) [2] rfl ?_
      exact hK v2 μ
    · refine AW.lload_n (i := 2) (a := v2) (by decide +kernel) rfl (?_ : AW _ _ _ _ 15 _ _ _ _ _ _)
      refine AW.aload_n (i := 0) (a := 0) (by decide +kernel) rfl (?_ : AW _ _ _ _ 16 _ _ _ _ _ _)
      refine AW.iload (i := 4) (a := v4) (by decide +kernel) rfl (?_ : AW _ _ _ _ 18 _ _ _ _ _ _)
      refine AW.iload_n (i := 1) (a := c1) (by decide +kernel) rfl (?_ : AW _ _ _ _ 19 _ _ _ _ _ _)
      refine AW.callVw (g := cf_Model_isExcused) (av := [zI v4, zI c1]) (b0 := 0) (ci := 9) (idx := 106) (n := 2) (st := [zJ v2]) (by decide +kernel) (fun l hl r hr => c_Model_isExcused l hl v4 c1 _ r hr) S_Model_wf rfl cal_Model_isExcused rfl (zw4 zm_X9_106 zi_yX9_isExcused zs_yX9_isExcused zn_X9) rfl rfl ⟨by decide, by decide, by decide, by decide⟩ (Nat.le_of_ble_eq_true rfl) (Or.inl rfl) (fun v μ1 => AW.kI (fun x2 => (?_ : AW _ _ _ _ 22 _ _ _ _ _ _)) v)
      refine AW.if_eq (off := 7) (tgt := 29) (by decide +kernel) (by decide) (fun _ => ?_) (fun _ => ?_)
      · refine AW.aload_n (i := 0) (a := 0) (by decide +kernel) rfl (?_ : AW _ _ _ _ 30 _ _ _ _ _ _)
        refine AW.getR (idx := 22) (ci := 9) (k := 7) (r := 0) (by decide +kernel) rfl rfl rfl (?_ : AW _ _ _ _ 33 _ _ _ _ _ _)
        refine AW.iload (i := 4) (a := v4) (by decide +kernel) rfl (?_ : AW _ _ _ _ 35 _ _ _ _ _ _)
        refine AW.iconst (n := 1) (by decide +kernel) (?_ : AW _ _ _ _ 36 _ _ _ _ _ _)
        refine AW.callP (g := cf_Model_placeOf) (av := [zI v4, zI 1]) (idx := 110) (n := 2) (st := [zR (some 5), zJ v2]) (by decide +kernel) (fun l hl r hr => c_Model_placeOf l hl v4 1 _ r hr) rfl cal_Model_placeOf rfl (zw3 zm_X9_110 zt_yX9_placeOf zn_X9) ⟨by decide, by decide, by decide, by decide⟩ (Nat.le_of_ble_eq_true rfl) (fun v _ => AW.kI (fun x4 => (?_ : AW _ _ _ _ 39 _ _ _ _ _ _)) v)
        refine AW.lald (r := 5) (by decide +kernel) rfl (fun x5 => (?_ : AW _ _ _ _ 40 _ _ _ _ _ _))
        refine AW.sub (L' := [(0, zR (some 0)), (1, zI c1), (4, zI v4)]) [0, 1, 3] rfl ?_
        exact j_Model_uncalled_40 c1 ih hK v4 x5 v2 μ1
      · refine AW.lconst0 (by decide +kernel) (?_ : AW _ _ _ _ 26 _ _ _ _ _ _)
        refine AW.goto (off := 14) (tgt := 40) (by decide +kernel) (by decide) ?_
        refine AW.sub (L' := [(0, zR (some 0)), (1, zI c1), (4, zI v4)]) [0, 1, 3] rfl ?_
        exact j_Model_uncalled_40 c1 ih hK v4 0 v2 μ1
def F_Model_uncalled (a1 : Int) (μ : ZMem) : Option ZRes := L_Model_uncalled_5 a1 (fun k9 μ8 => some (.inr (some (zJ k9)), μ8)) zN 0 0 μ
set_option maxRecDepth 100000 in
theorem w_Model_uncalled (a1 : Int) (μ : ZMem) : AW cf_Model_uncalled S_Model.length S_Model S_Model 0 [(0, zR (some 0)), (1, zI a1)] [] μ 0 0 (F_Model_uncalled a1 μ) := by
  unfold F_Model_uncalled
  refine AW.lconst0 (by decide +kernel) (?_ : AW _ _ _ _ 1 _ _ _ _ _ _)
  refine AW.lstore_n' (i := 2) (L' := [(2, zJ 0), (0, zR (some 0)), (1, zI a1)]) (by decide +kernel) (by decide) rfl (?_ : AW _ _ _ _ 2 _ _ _ _ _ _)
  refine AW.iconst (n := 0) (by decide +kernel) (?_ : AW _ _ _ _ 3 _ _ _ _ _ _)
  refine AW.istore' (i := 4) (L' := [(4, zI 0), (2, zJ 0), (0, zR (some 0)), (1, zI a1)]) (by decide +kernel) (by decide) rfl (?_ : AW _ _ _ _ 5 _ _ _ _ _ _)
  refine AW.sub (L' := [(0, zR (some 0)), (1, zI a1), (2, zJ 0), (4, zI 0)]) [2, 3, 1, 0] rfl ?_
  refine l_Model_uncalled_5 (fun k9 μ8 => ?_) zN _ _ _
  refine AW.lload_n (i := 2) (a := k9) (by decide +kernel) rfl (?_ : AW _ _ _ _ 49 _ _ _ _ _ _)
  exact AW.retl (by decide +kernel) rfl (by decide) (by decide)
theorem c_Model_uncalled (l : Launch) (hl : l.stackTraces = false) (a1 : Int) (μ : ZMem) (r : ZRes) (h : F_Model_uncalled a1 μ = some r) : ZC l cf_Model_uncalled S_Model S_Model [zR (some 0), zI a1] μ r := ZC.of hl (by decide +kernel) rfl rfl zft_X9_ok (Nat.le_of_ble_eq_true rfl) h (w_Model_uncalled a1 μ)
/-! WeirLedgerModel.weightOf(I)J -/
def cf_Model_weightOf : ZCf := (yX9_weightOf, cX9_weightOf, 4, some .long, [], 3, 0, 0, zft_X9, none)
theorem cal_Model_weightOf : zCallee cf_Model_weightOf 1 := ⟨rfl, zc_yX9_weightOf, by decide, by decide, by decide +kernel⟩
def F_Model_weightOf (a1 : Int) (μ : ZMem) : Option ZRes := zC (F_Model_placeOf a1 0 μ) (zkI (fun x2 _ => zRd μ 5 92 x2 (fun x3 => zC (F_Model_placeOf a1 4 μ) (zkI (fun x5 _ => zRd μ 5 92 x5 (fun x6 => if w64 x6 = w64 1 then (some (.inr (some (zJ ((w64 (x3 + 1)).tdiv (w64 2)))), μ)) else (some (.inr (some (zJ x3)), μ))))) zX0))) zX0
set_option maxRecDepth 100000 in
theorem w_Model_weightOf (a1 : Int) (μ : ZMem) : AW cf_Model_weightOf S_Model.length S_Model S_Model 0 [(0, zR (some 0)), (1, zI a1)] [] μ 0 0 (F_Model_weightOf a1 μ) := by
  unfold F_Model_weightOf
  refine AW.aload_n (i := 0) (a := 0) (by decide +kernel) rfl (?_ : AW _ _ _ _ 1 _ _ _ _ _ _)
  refine AW.getR (idx := 22) (ci := 9) (k := 7) (r := 0) (by decide +kernel) rfl rfl rfl (?_ : AW _ _ _ _ 4 _ _ _ _ _ _)
  refine AW.iload_n (i := 1) (a := a1) (by decide +kernel) rfl (?_ : AW _ _ _ _ 5 _ _ _ _ _ _)
  refine AW.iconst (n := 0) (by decide +kernel) (?_ : AW _ _ _ _ 6 _ _ _ _ _ _)
  refine AW.callP (g := cf_Model_placeOf) (av := [zI a1, zI 0]) (idx := 110) (n := 2) (st := [zR (some 5)]) (by decide +kernel) (fun l hl r hr => c_Model_placeOf l hl a1 0 _ r hr) rfl cal_Model_placeOf rfl (zw3 zm_X9_110 zt_yX9_placeOf zn_X9) ⟨by decide, by decide, by decide, by decide⟩ (Nat.le_of_ble_eq_true rfl) (fun v _ => AW.kI (fun x2 => (?_ : AW _ _ _ _ 9 _ _ _ _ _ _)) v)
  refine AW.lald (r := 5) (by decide +kernel) rfl (fun x3 => (?_ : AW _ _ _ _ 10 _ _ _ _ _ _))
  refine AW.lstore_n' (i := 2) (L' := [(2, zJ x3), (0, zR (some 0)), (1, zI a1)]) (by decide +kernel) (by decide) rfl (?_ : AW _ _ _ _ 11 _ _ _ _ _ _)
  refine AW.aload_n (i := 0) (a := 0) (by decide +kernel) rfl (?_ : AW _ _ _ _ 12 _ _ _ _ _ _)
  refine AW.getR (idx := 22) (ci := 9) (k := 7) (r := 0) (by decide +kernel) rfl rfl rfl (?_ : AW _ _ _ _ 15 _ _ _ _ _ _)
  refine AW.iload_n (i := 1) (a := a1) (by decide +kernel) rfl (?_ : AW _ _ _ _ 16 _ _ _ _ _ _)
  refine AW.iconst (n := 4) (by decide +kernel) (?_ : AW _ _ _ _ 17 _ _ _ _ _ _)
  refine AW.callP (g := cf_Model_placeOf) (av := [zI a1, zI 4]) (idx := 110) (n := 2) (st := [zR (some 5)]) (by decide +kernel) (fun l hl r hr => c_Model_placeOf l hl a1 4 _ r hr) rfl cal_Model_placeOf rfl (zw3 zm_X9_110 zt_yX9_placeOf zn_X9) ⟨by decide, by decide, by decide, by decide⟩ (Nat.le_of_ble_eq_true rfl) (fun v _ => AW.kI (fun x5 => (?_ : AW _ _ _ _ 20 _ _ _ _ _ _)) v)
  refine AW.lald (r := 5) (by decide +kernel) rfl (fun x6 => (?_ : AW _ _ _ _ 21 _ _ _ _ _ _))
  refine AW.lconst1 (by decide +kernel) (?_ : AW _ _ _ _ 22 _ _ _ _ _ _)
  refine AW.lcmp_ne (off := 13) (tgt := 36) (by decide +kernel) (by decide +kernel) (by decide) (fun _ => ?_) (fun _ => ?_)
  · refine AW.lload_n (i := 2) (a := x3) (by decide +kernel) rfl (?_ : AW _ _ _ _ 27 _ _ _ _ _ _)
    refine AW.lconst1 (by decide +kernel) (?_ : AW _ _ _ _ 28 _ _ _ _ _ _)
    refine AW.ladd (by decide +kernel) (?_ : AW _ _ _ _ 29 _ _ _ _ _ _)
    refine AW.ldc2 (idx := 114) (v := 2) (by decide +kernel) zk_X9_114 (?_ : AW _ _ _ _ 32 _ _ _ _ _ _)
    refine AW.ldiv (by decide +kernel) (by decide +kernel) (?_ : AW _ _ _ _ 33 _ _ _ _ _ _)
    refine AW.goto (off := 4) (tgt := 37) (by decide +kernel) (by decide) ?_
    exact AW.retl (by decide +kernel) rfl (by decide) (by decide)
  · refine AW.lload_n (i := 2) (a := x3) (by decide +kernel) rfl (?_ : AW _ _ _ _ 37 _ _ _ _ _ _)
    exact AW.retl (by decide +kernel) rfl (by decide) (by decide)
theorem c_Model_weightOf (l : Launch) (hl : l.stackTraces = false) (a1 : Int) (μ : ZMem) (r : ZRes) (h : F_Model_weightOf a1 μ = some r) : ZC l cf_Model_weightOf S_Model S_Model [zR (some 0), zI a1] μ r := ZC.of hl (by decide +kernel) rfl rfl zft_X9_ok (Nat.le_of_ble_eq_true rfl) h (w_Model_weightOf a1 μ)
/-! WeirLedgerModel.anew()V -/
def cf_Model_anew : ZCf := (yX9_anew, cX9_anew, 2, none, [], 3, 0, 0, zft_X9, none)
theorem cal_Model_anew : zCallee cf_Model_anew 0 := ⟨rfl, zc_yX9_anew, by decide, by decide, by decide +kernel⟩
def L_Model_anew_2 (K : ZMem → Option ZRes) : Nat → Int → ZMem → Option ZRes
  | 0, _, _ => none
  | n + 1, v1, μ => if w32 92 ≤ w32 v1 then (K  μ) else (zWr μ 5 92 v1 0 (fun μ1 => zLet (v1 + 1) (fun x2 => L_Model_anew_2 K n x2 μ1)))
set_option maxRecDepth 100000 in
theorem l_Model_anew_2 {K : ZMem → Option ZRes} (hK : ∀ (μ : ZMem), AW cf_Model_anew S_Model.length S_Model S_Model 21 [(0, zR (some 0))] [] μ 0 0 (K μ)) : ∀ (n : Nat) (v1 : Int) (μ : ZMem), AW cf_Model_anew S_Model.length S_Model S_Model 2 [(0, zR (some 0)), (1, zI v1)] [] μ 0 0 (L_Model_anew_2 K n v1 μ) := by
  intro n
  induction n with
  | zero => intro v1 μ; exact AW.noth
  | succ n ih =>
    intro v1 μ
    rw [L_Model_anew_2]
    refine AW.iload_n (i := 1) (a := v1) (by decide +kernel) rfl (?_ : AW _ _ _ _ 3 _ _ _ _ _ _)
    refine AW.bipush (n := 92) (by decide +kernel) (by decide +kernel) (?_ : AW _ _ _ _ 5 _ _ _ _ _ _)
    refine AW.icmp_ge (off := 16) (tgt := 21) (by decide +kernel) (by decide) (fun _ => ?_) (fun _ => ?_)
    · refine AW.sub (L' := [(0, zR (some 0))]) [0] rfl ?_
      exact hK  μ
    · refine AW.aload_n (i := 0) (a := 0) (by decide +kernel) rfl (?_ : AW _ _ _ _ 9 _ _ _ _ _ _)
      refine AW.getR (idx := 22) (ci := 9) (k := 7) (r := 0) (by decide +kernel) rfl rfl rfl (?_ : AW _ _ _ _ 12 _ _ _ _ _ _)
      refine AW.iload_n (i := 1) (a := v1) (by decide +kernel) rfl (?_ : AW _ _ _ _ 13 _ _ _ _ _ _)
      refine AW.lconst0 (by decide +kernel) (?_ : AW _ _ _ _ 14 _ _ _ _ _ _)
      refine AW.lastL (r := 5) (by decide +kernel) rfl (fun μ1 => (?_ : AW _ _ _ _ 15 _ _ _ _ _ _))
      refine AW.iincL (i := 1) (n := 1) (a := v1) (L' := fun x2 => [(1, zI x2), (0, zR (some 0))]) (by decide +kernel) rfl (by decide) (fun _ => rfl) (fun x2 => (?_ : AW _ _ _ _ 18 _ _ _ _ _ _))
      refine AW.goto (off := -16) (tgt := 2) (by decide +kernel) (by decide) ?_
      refine AW.sub (L' := [(0, zR (some 0)), (1, zI x2)]) [1, 0] rfl ?_
      exact ih x2 μ1
def L_Model_anew_23 (K : ZMem → Option ZRes) : Nat → Int → ZMem → Option ZRes
  | 0, _, _ => none
  | n + 1, v1, μ => if w32 1206 ≤ w32 v1 then (K  μ) else (zWr μ 6 1206 v1 0 (fun μ4 => zWr μ4 7 1206 v1 0 (fun μ5 => zLet (v1 + 1) (fun x6 => L_Model_anew_23 K n x6 μ5))))
set_option maxRecDepth 100000 in
theorem l_Model_anew_23 {K : ZMem → Option ZRes} (hK : ∀ (μ : ZMem), AW cf_Model_anew S_Model.length S_Model S_Model 50 [(0, zR (some 0))] [] μ 0 0 (K μ)) : ∀ (n : Nat) (v1 : Int) (μ : ZMem), AW cf_Model_anew S_Model.length S_Model S_Model 23 [(0, zR (some 0)), (1, zI v1)] [] μ 0 0 (L_Model_anew_23 K n v1 μ) := by
  intro n
  induction n with
  | zero => intro v1 μ; exact AW.noth
  | succ n ih =>
    intro v1 μ
    rw [L_Model_anew_23]
    refine AW.iload_n (i := 1) (a := v1) (by decide +kernel) rfl (?_ : AW _ _ _ _ 24 _ _ _ _ _ _)
    refine AW.sipush (n := 1206) (by decide +kernel) (by decide +kernel) (?_ : AW _ _ _ _ 27 _ _ _ _ _ _)
    refine AW.icmp_ge (off := 23) (tgt := 50) (by decide +kernel) (by decide) (fun _ => ?_) (fun _ => ?_)
    · refine AW.sub (L' := [(0, zR (some 0))]) [0] rfl ?_
      exact hK  μ
    · refine AW.aload_n (i := 0) (a := 0) (by decide +kernel) rfl (?_ : AW _ _ _ _ 31 _ _ _ _ _ _)
      refine AW.getR (idx := 26) (ci := 9) (k := 8) (r := 0) (by decide +kernel) rfl rfl rfl (?_ : AW _ _ _ _ 34 _ _ _ _ _ _)
      refine AW.iload_n (i := 1) (a := v1) (by decide +kernel) rfl (?_ : AW _ _ _ _ 35 _ _ _ _ _ _)
      refine AW.lconst0 (by decide +kernel) (?_ : AW _ _ _ _ 36 _ _ _ _ _ _)
      refine AW.lastL (r := 6) (by decide +kernel) rfl (fun μ4 => (?_ : AW _ _ _ _ 37 _ _ _ _ _ _))
      refine AW.aload_n (i := 0) (a := 0) (by decide +kernel) rfl (?_ : AW _ _ _ _ 38 _ _ _ _ _ _)
      refine AW.getR (idx := 29) (ci := 9) (k := 9) (r := 0) (by decide +kernel) rfl rfl rfl (?_ : AW _ _ _ _ 41 _ _ _ _ _ _)
      refine AW.iload_n (i := 1) (a := v1) (by decide +kernel) rfl (?_ : AW _ _ _ _ 42 _ _ _ _ _ _)
      refine AW.lconst0 (by decide +kernel) (?_ : AW _ _ _ _ 43 _ _ _ _ _ _)
      refine AW.lastL (r := 7) (by decide +kernel) rfl (fun μ5 => (?_ : AW _ _ _ _ 44 _ _ _ _ _ _))
      refine AW.iincL (i := 1) (n := 1) (a := v1) (L' := fun x6 => [(1, zI x6), (0, zR (some 0))]) (by decide +kernel) rfl (by decide) (fun _ => rfl) (fun x6 => (?_ : AW _ _ _ _ 47 _ _ _ _ _ _))
      refine AW.goto (off := -24) (tgt := 23) (by decide +kernel) (by decide) ?_
      refine AW.sub (L' := [(0, zR (some 0)), (1, zI x6)]) [1, 0] rfl ?_
      exact ih x6 μ5
def L_Model_anew_52 (K : ZMem → Option ZRes) : Nat → Int → ZMem → Option ZRes
  | 0, _, _ => none
  | n + 1, v1, μ => if w32 (μ 0 5) ≤ w32 v1 then (K  μ) else (zC (F_Model_placeOf v1 0 μ) (zkI (fun x9 _ => zRd μ 3 6 v1 (fun x10 => zWr μ 5 92 x9 (w32 x10) (fun μ11 => zC (F_Model_placeOf v1 1 μ11) (zkI (fun x13 _ => zRd μ11 3 6 v1 (fun x14 => zWr μ11 5 92 x13 (w32 x14) (fun μ15 => zLet (v1 + 1) (fun x16 => L_Model_anew_52 K n x16 μ15))))) zX0)))) zX0)
set_option maxRecDepth 100000 in
theorem l_Model_anew_52 {K : ZMem → Option ZRes} (hK : ∀ (μ : ZMem), AW cf_Model_anew S_Model.length S_Model S_Model 100 [] [] μ 0 0 (K μ)) : ∀ (n : Nat) (v1 : Int) (μ : ZMem), AW cf_Model_anew S_Model.length S_Model S_Model 52 [(0, zR (some 0)), (1, zI v1)] [] μ 0 0 (L_Model_anew_52 K n v1 μ) := by
  intro n
  induction n with
  | zero => intro v1 μ; exact AW.noth
  | succ n ih =>
    intro v1 μ
    rw [L_Model_anew_52]
    refine AW.iload_n (i := 1) (a := v1) (by decide +kernel) rfl (?_ : AW _ _ _ _ 53 _ _ _ _ _ _)
    refine AW.aload_n (i := 0) (a := 0) (by decide +kernel) rfl (?_ : AW _ _ _ _ 54 _ _ _ _ _ _)
    refine AW.getI (idx := 96) (ci := 9) (k := 5) (r := 0) (by decide +kernel) rfl rfl rfl (?_ : AW _ _ _ _ 57 _ _ _ _ _ _)
    refine AW.icmp_ge (off := 43) (tgt := 100) (by decide +kernel) (by decide) (fun _ => ?_) (fun _ => ?_)
    · refine AW.sub (L' := []) [] rfl ?_
      exact hK  μ
    · refine AW.aload_n (i := 0) (a := 0) (by decide +kernel) rfl (?_ : AW _ _ _ _ 61 _ _ _ _ _ _)
      refine AW.getR (idx := 22) (ci := 9) (k := 7) (r := 0) (by decide +kernel) rfl rfl rfl (?_ : AW _ _ _ _ 64 _ _ _ _ _ _)
      refine AW.iload_n (i := 1) (a := v1) (by decide +kernel) rfl (?_ : AW _ _ _ _ 65 _ _ _ _ _ _)
      refine AW.iconst (n := 0) (by decide +kernel) (?_ : AW _ _ _ _ 66 _ _ _ _ _ _)
      refine AW.callP (g := cf_Model_placeOf) (av := [zI v1, zI 0]) (idx := 110) (n := 2) (st := [zR (some 5)]) (by decide +kernel) (fun l hl r hr => c_Model_placeOf l hl v1 0 _ r hr) rfl cal_Model_placeOf rfl (zw3 zm_X9_110 zt_yX9_placeOf zn_X9) ⟨by decide, by decide, by decide, by decide⟩ (Nat.le_of_ble_eq_true rfl) (fun v _ => AW.kI (fun x9 => (?_ : AW _ _ _ _ 69 _ _ _ _ _ _)) v)
      refine AW.aload_n (i := 0) (a := 0) (by decide +kernel) rfl (?_ : AW _ _ _ _ 70 _ _ _ _ _ _)
      refine AW.getR (idx := 16) (ci := 9) (k := 3) (r := 0) (by decide +kernel) rfl rfl rfl (?_ : AW _ _ _ _ 73 _ _ _ _ _ _)
      refine AW.iload_n (i := 1) (a := v1) (by decide +kernel) rfl (?_ : AW _ _ _ _ 74 _ _ _ _ _ _)
      refine AW.iald (r := 3) (by decide +kernel) rfl (fun x10 => (?_ : AW _ _ _ _ 75 _ _ _ _ _ _))
      refine AW.i2l (by decide +kernel) (?_ : AW _ _ _ _ 76 _ _ _ _ _ _)
      refine AW.lastL (r := 5) (by decide +kernel) rfl (fun μ11 => (?_ : AW _ _ _ _ 77 _ _ _ _ _ _))
      refine AW.aload_n (i := 0) (a := 0) (by decide +kernel) rfl (?_ : AW _ _ _ _ 78 _ _ _ _ _ _)
      refine AW.getR (idx := 22) (ci := 9) (k := 7) (r := 0) (by decide +kernel) rfl rfl rfl (?_ : AW _ _ _ _ 81 _ _ _ _ _ _)
      refine AW.iload_n (i := 1) (a := v1) (by decide +kernel) rfl (?_ : AW _ _ _ _ 82 _ _ _ _ _ _)
      refine AW.iconst (n := 1) (by decide +kernel) (?_ : AW _ _ _ _ 83 _ _ _ _ _ _)
      refine AW.callP (g := cf_Model_placeOf) (av := [zI v1, zI 1]) (idx := 110) (n := 2) (st := [zR (some 5)]) (by decide +kernel) (fun l hl r hr => c_Model_placeOf l hl v1 1 _ r hr) rfl cal_Model_placeOf rfl (zw3 zm_X9_110 zt_yX9_placeOf zn_X9) ⟨by decide, by decide, by decide, by decide⟩ (Nat.le_of_ble_eq_true rfl) (fun v _ => AW.kI (fun x13 => (?_ : AW _ _ _ _ 86 _ _ _ _ _ _)) v)
      refine AW.aload_n (i := 0) (a := 0) (by decide +kernel) rfl (?_ : AW _ _ _ _ 87 _ _ _ _ _ _)
      refine AW.getR (idx := 16) (ci := 9) (k := 3) (r := 0) (by decide +kernel) rfl rfl rfl (?_ : AW _ _ _ _ 90 _ _ _ _ _ _)
      refine AW.iload_n (i := 1) (a := v1) (by decide +kernel) rfl (?_ : AW _ _ _ _ 91 _ _ _ _ _ _)
      refine AW.iald (r := 3) (by decide +kernel) rfl (fun x14 => (?_ : AW _ _ _ _ 92 _ _ _ _ _ _))
      refine AW.i2l (by decide +kernel) (?_ : AW _ _ _ _ 93 _ _ _ _ _ _)
      refine AW.lastL (r := 5) (by decide +kernel) rfl (fun μ15 => (?_ : AW _ _ _ _ 94 _ _ _ _ _ _))
      refine AW.iincL (i := 1) (n := 1) (a := v1) (L' := fun x16 => [(1, zI x16), (0, zR (some 0))]) (by decide +kernel) rfl (by decide) (fun _ => rfl) (fun x16 => (?_ : AW _ _ _ _ 97 _ _ _ _ _ _))
      refine AW.goto (off := -45) (tgt := 52) (by decide +kernel) (by decide) ?_
      refine AW.sub (L' := [(0, zR (some 0)), (1, zI x16)]) [1, 0] rfl ?_
      exact ih x16 μ15
def F_Model_anew (μ : ZMem) : Option ZRes := L_Model_anew_2 (fun μ3 => L_Model_anew_23 (fun μ7 => L_Model_anew_52 (fun μ17 => some (.inr none, μ17)) zN 0 μ7) zN 0 μ3) zN 0 μ
set_option maxRecDepth 100000 in
theorem w_Model_anew (μ : ZMem) : AW cf_Model_anew S_Model.length S_Model S_Model 0 [(0, zR (some 0))] [] μ 0 0 (F_Model_anew μ) := by
  unfold F_Model_anew
  refine AW.iconst (n := 0) (by decide +kernel) (?_ : AW _ _ _ _ 1 _ _ _ _ _ _)
  refine AW.istore_n' (i := 1) (L' := [(1, zI 0), (0, zR (some 0))]) (by decide +kernel) (by decide) rfl (?_ : AW _ _ _ _ 2 _ _ _ _ _ _)
  refine AW.sub (L' := [(0, zR (some 0)), (1, zI 0)]) [1, 0] rfl ?_
  refine l_Model_anew_2 (fun μ3 => ?_) zN _ _
  refine AW.iconst (n := 0) (by decide +kernel) (?_ : AW _ _ _ _ 22 _ _ _ _ _ _)
  refine AW.istore_n' (i := 1) (L' := [(1, zI 0), (0, zR (some 0))]) (by decide +kernel) (by decide) rfl (?_ : AW _ _ _ _ 23 _ _ _ _ _ _)
  refine AW.sub (L' := [(0, zR (some 0)), (1, zI 0)]) [1, 0] rfl ?_
  refine l_Model_anew_23 (fun μ7 => ?_) zN _ _
  refine AW.iconst (n := 0) (by decide +kernel) (?_ : AW _ _ _ _ 51 _ _ _ _ _ _)
  refine AW.istore_n' (i := 1) (L' := [(1, zI 0), (0, zR (some 0))]) (by decide +kernel) (by decide) rfl (?_ : AW _ _ _ _ 52 _ _ _ _ _ _)
  refine AW.sub (L' := [(0, zR (some 0)), (1, zI 0)]) [1, 0] rfl ?_
  refine l_Model_anew_52 (fun μ17 => ?_) zN _ _
  exact AW.retv (by decide +kernel) rfl (by decide) (by decide)
theorem c_Model_anew (l : Launch) (hl : l.stackTraces = false) (μ : ZMem) (r : ZRes) (h : F_Model_anew μ = some r) : ZC l cf_Model_anew S_Model S_Model [zR (some 0)] μ r := ZC.of hl (by decide +kernel) rfl rfl zft_X9_ok (Nat.le_of_ble_eq_true rfl) h (w_Model_anew μ)
/-! WeirLedgerModel.shares(J)V -/
def cf_Model_shares : ZCf := (yX9_shares, cX9_shares, 9, none, [], 2, 0, 0, zft_X9, none)
theorem cal_Model_shares : zCallee cf_Model_shares 1 := ⟨rfl, zc_yX9_shares, by decide, by decide, by decide +kernel⟩
def L_Model_shares_5 (c1 : Int) (μ : ZMem) (K : Int → Option ZRes) : Nat → Int → Int → Option ZRes
  | 0, _, _ => none
  | n + 1, v3, v5 => if w32 (μ 0 5) ≤ w32 v5 then (K v3) else (zRd μ 19 6 v5 (fun x1 => zLet ((v3 + x1)) (fun x2 => zLet (v5 + 1) (fun x3 => L_Model_shares_5 c1 μ K n x2 x3))))
set_option maxRecDepth 100000 in
theorem l_Model_shares_5 {c1 : Int} {μ : ZMem} {K : Int → Option ZRes} (hK : ∀ (k3 : Int), AW cf_Model_shares S_Model.length S_Model S_Model 30 [(0, zR (some 0)), (1, zJ c1), (3, zJ k3)] [] μ 0 0 (K k3)) : ∀ (n : Nat) (v3 : Int) (v5 : Int), AW cf_Model_shares S_Model.length S_Model S_Model 5 [(0, zR (some 0)), (1, zJ c1), (3, zJ v3), (5, zI v5)] [] μ 0 0 (L_Model_shares_5 c1 μ K n v3 v5) := by
  intro n
  induction n with
  | zero => intro v3 v5; exact AW.noth
  | succ n ih =>
    intro v3 v5
    rw [L_Model_shares_5]
    refine AW.iload (i := 5) (a := v5) (by decide +kernel) rfl (?_ : AW _ _ _ _ 7 _ _ _ _ _ _)
    refine AW.aload_n (i := 0) (a := 0) (by decide +kernel) rfl (?_ : AW _ _ _ _ 8 _ _ _ _ _ _)
    refine AW.getI (idx := 96) (ci := 9) (k := 5) (r := 0) (by decide +kernel) rfl rfl rfl (?_ : AW _ _ _ _ 11 _ _ _ _ _ _)
    refine AW.icmp_ge (off := 19) (tgt := 30) (by decide +kernel) (by decide) (fun _ => ?_) (fun _ => ?_)
    · refine AW.sub (L' := [(0, zR (some 0)), (1, zJ c1), (3, zJ v3)]) [0, 1, 2] rfl ?_
      exact hK v3
    · refine AW.lload_n (i := 3) (a := v3) (by decide +kernel) rfl (?_ : AW _ _ _ _ 15 _ _ _ _ _ _)
      refine AW.aload_n (i := 0) (a := 0) (by decide +kernel) rfl (?_ : AW _ _ _ _ 16 _ _ _ _ _ _)
      refine AW.getR (idx := 72) (ci := 9) (k := 31) (r := 0) (by decide +kernel) rfl rfl rfl (?_ : AW _ _ _ _ 19 _ _ _ _ _ _)
      refine AW.iload (i := 5) (a := v5) (by decide +kernel) rfl (?_ : AW _ _ _ _ 21 _ _ _ _ _ _)
      refine AW.lald (r := 19) (by decide +kernel) rfl (fun x1 => (?_ : AW _ _ _ _ 22 _ _ _ _ _ _))
      refine AW.ladd (by decide +kernel) (?_ : AW _ _ _ _ 23 _ _ _ _ _ _)
      refine AW.lstoreL_n (i := 3) (L' := fun x2 => [(3, zJ x2), (0, zR (some 0)), (1, zJ c1), (5, zI v5)]) (by decide +kernel) (by decide) (fun _ => rfl) (fun x2 => (?_ : AW _ _ _ _ 24 _ _ _ _ _ _))
      refine AW.iincL (i := 5) (n := 1) (a := v5) (L' := fun x3 => [(5, zI x3), (3, zJ x2), (0, zR (some 0)), (1, zJ c1)]) (by decide +kernel) rfl (by decide) (fun _ => rfl) (fun x3 => (?_ : AW _ _ _ _ 27 _ _ _ _ _ _))
      refine AW.goto (off := -22) (tgt := 5) (by decide +kernel) (by decide) ?_
      refine AW.sub (L' := [(0, zR (some 0)), (1, zJ c1), (3, zJ x2), (5, zI x3)]) [2, 3, 1, 0] rfl ?_
      exact ih x2 x3
def J_Model_shares_100 (R : Int → Int → ZMem → Option ZRes) (K : Int → ZMem → Option ZRes) (c1 : Int) (c3 : Int) (u5 : Int) (u7 : Int) (y0 : Int) (y1 : Int) (μ : ZMem) : Option ZRes := zWr μ 21 6 y1 y0 (fun μ6 => zRd μ6 20 6 u7 (fun x7 => zLet ((u5 - x7)) (fun x8 => zLet (u7 + 1) (fun x9 => R x8 x9 μ6))))
set_option maxRecDepth 100000 in
theorem j_Model_shares_100 {R : Int → Int → ZMem → Option ZRes} {K : Int → ZMem → Option ZRes} (c1 : Int) (c3 : Int) (hR : ∀ (v5 : Int) (v7 : Int) (μ : ZMem), AW cf_Model_shares S_Model.length S_Model S_Model 36 [(0, zR (some 0)), (1, zJ c1), (3, zJ c3), (5, zJ v5), (7, zI v7)] [] μ 0 0 (R v5 v7 μ)) (hK : ∀ (k5 : Int) (μ : ZMem), AW cf_Model_shares S_Model.length S_Model S_Model 119 [(0, zR (some 0)), (3, zJ c3), (5, zJ k5)] [] μ 0 0 (K k5 μ)) (u5 : Int) (u7 : Int) (y0 : Int) (y1 : Int) (μ : ZMem) : AW cf_Model_shares S_Model.length S_Model S_Model 100 [(0, zR (some 0)), (1, zJ c1), (3, zJ c3), (5, zJ u5), (7, zI u7)] [zJ y0, zI y1, zR (some 21)] μ 0 0 (J_Model_shares_100 R K c1 c3 u5 u7 y0 y1 μ) := by
  unfold J_Model_shares_100
  refine AW.lastL (r := 21) (by decide +kernel) rfl (fun μ6 => (?_ : AW _ _ _ _ 101 _ _ _ _ _ _))
  refine AW.lload (i := 5) (a := u5) (by decide +kernel) rfl (?_ : AW _ _ _ _ 103 _ _ _ _ _ _)
  refine AW.aload_n (i := 0) (a := 0) (by decide +kernel) rfl (?_ : AW _ _ _ _ 104 _ _ _ _ _ _)
  refine AW.getR (idx := 75) (ci := 9) (k := 32) (r := 0) (by decide +kernel) rfl rfl rfl (?_ : AW _ _ _ _ 107 _ _ _ _ _ _)
  refine AW.iload (i := 7) (a := u7) (by decide +kernel) rfl (?_ : AW _ _ _ _ 109 _ _ _ _ _ _)
  refine AW.lald (r := 20) (by decide +kernel) rfl (fun x7 => (?_ : AW _ _ _ _ 110 _ _ _ _ _ _))
  refine AW.lsub (by decide +kernel) (?_ : AW _ _ _ _ 111 _ _ _ _ _ _)
  refine AW.lstoreL (i := 5) (L' := fun x8 => [(5, zJ x8), (0, zR (some 0)), (1, zJ c1), (3, zJ c3), (7, zI u7)]) (by decide +kernel) (by decide) (fun _ => rfl) (fun x8 => (?_ : AW _ _ _ _ 113 _ _ _ _ _ _))
  refine AW.iincL (i := 7) (n := 1) (a := u7) (L' := fun x9 => [(7, zI x9), (5, zJ x8), (0, zR (some 0)), (1, zJ c1), (3, zJ c3)]) (by decide +kernel) rfl (by decide) (fun _ => rfl) (fun x9 => (?_ : AW _ _ _ _ 116 _ _ _ _ _ _))
  refine AW.goto (off := -80) (tgt := 36) (by decide +kernel) (by decide) ?_
  refine AW.sub (L' := [(0, zR (some 0)), (1, zJ c1), (3, zJ c3), (5, zJ x8), (7, zI x9)]) [2, 3, 4, 1, 0] rfl ?_
  exact hR x8 x9 μ6
def J_Model_shares_72 (R : Int → Int → ZMem → Option ZRes) (K : Int → ZMem → Option ZRes) (c1 : Int) (c3 : Int) (u5 : Int) (u7 : Int) (y0 : Int) (y1 : Int) (μ : ZMem) : Option ZRes := zWr μ 20 6 y1 y0 (fun μ5 => if w64 c3 = w64 0 then (J_Model_shares_100 R K c1 c3 u5 u7 0 u7 μ5) else (zRd μ5 19 6 u7 (fun x10 => if w64 c3 = 0 then none else (J_Model_shares_100 R K c1 c3 u5 u7 ((w64 (c1 * x10)).tmod (w64 c3)) u7 μ5))))
set_option maxRecDepth 100000 in
theorem j_Model_shares_72 {R : Int → Int → ZMem → Option ZRes} {K : Int → ZMem → Option ZRes} (c1 : Int) (c3 : Int) (hR : ∀ (v5 : Int) (v7 : Int) (μ : ZMem), AW cf_Model_shares S_Model.length S_Model S_Model 36 [(0, zR (some 0)), (1, zJ c1), (3, zJ c3), (5, zJ v5), (7, zI v7)] [] μ 0 0 (R v5 v7 μ)) (hK : ∀ (k5 : Int) (μ : ZMem), AW cf_Model_shares S_Model.length S_Model S_Model 119 [(0, zR (some 0)), (3, zJ c3), (5, zJ k5)] [] μ 0 0 (K k5 μ)) (u5 : Int) (u7 : Int) (y0 : Int) (y1 : Int) (μ : ZMem) : AW cf_Model_shares S_Model.length S_Model S_Model 72 [(0, zR (some 0)), (1, zJ c1), (3, zJ c3), (5, zJ u5), (7, zI u7)] [zJ y0, zI y1, zR (some 20)] μ 0 0 (J_Model_shares_72 R K c1 c3 u5 u7 y0 y1 μ) := by
  unfold J_Model_shares_72
  refine AW.lastL (r := 20) (by decide +kernel) rfl (fun μ5 => (?_ : AW _ _ _ _ 73 _ _ _ _ _ _))
  refine AW.aload_n (i := 0) (a := 0) (by decide +kernel) rfl (?_ : AW _ _ _ _ 74 _ _ _ _ _ _)
  refine AW.getR (idx := 78) (ci := 9) (k := 33) (r := 0) (by decide +kernel) rfl rfl rfl (?_ : AW _ _ _ _ 77 _ _ _ _ _ _)
  refine AW.iload (i := 7) (a := u7) (by decide +kernel) rfl (?_ : AW _ _ _ _ 79 _ _ _ _ _ _)
  refine AW.lload_n (i := 3) (a := c3) (by decide +kernel) rfl (?_ : AW _ _ _ _ 80 _ _ _ _ _ _)
  refine AW.lconst0 (by decide +kernel) (?_ : AW _ _ _ _ 81 _ _ _ _ _ _)
  refine AW.lcmp_ne (off := 7) (tgt := 89) (by decide +kernel) (by decide +kernel) (by decide) (fun _ => ?_) (fun _ => ?_)
  · refine AW.lconst0 (by decide +kernel) (?_ : AW _ _ _ _ 86 _ _ _ _ _ _)
    refine AW.goto (off := 14) (tgt := 100) (by decide +kernel) (by decide) ?_
    exact j_Model_shares_100 c1 c3 hR hK u5 u7 0 u7 μ5
  · refine AW.lload_n (i := 1) (a := c1) (by decide +kernel) rfl (?_ : AW _ _ _ _ 90 _ _ _ _ _ _)
    refine AW.aload_n (i := 0) (a := 0) (by decide +kernel) rfl (?_ : AW _ _ _ _ 91 _ _ _ _ _ _)
    refine AW.getR (idx := 72) (ci := 9) (k := 31) (r := 0) (by decide +kernel) rfl rfl rfl (?_ : AW _ _ _ _ 94 _ _ _ _ _ _)
    refine AW.iload (i := 7) (a := u7) (by decide +kernel) rfl (?_ : AW _ _ _ _ 96 _ _ _ _ _ _)
    refine AW.lald (r := 19) (by decide +kernel) rfl (fun x10 => (?_ : AW _ _ _ _ 97 _ _ _ _ _ _))
    refine AW.lmul (by decide +kernel) (?_ : AW _ _ _ _ 98 _ _ _ _ _ _)
    refine AW.lload_n (i := 3) (a := c3) (by decide +kernel) rfl (?_ : AW _ _ _ _ 99 _ _ _ _ _ _)
    refine AW.lrem_if (K := fun _ => _) (by decide +kernel) (?_ : AW _ _ _ _ 100 _ _ _ _ _ _)
    exact j_Model_shares_100 c1 c3 hR hK u5 u7 ((w64 (c1 * x10)).tmod (w64 c3)) u7 μ5
def L_Model_shares_36 (c1 : Int) (c3 : Int) (K : Int → ZMem → Option ZRes) : Nat → Int → Int → ZMem → Option ZRes
  | 0, _, _, _ => none
  | n + 1, v5, v7, μ => if w32 (μ 0 5) ≤ w32 v7 then (K v5 μ) else (if w64 c3 = w64 0 then (J_Model_shares_72 (fun v5 v7 μ => L_Model_shares_36 c1 c3 K n v5 v7 μ) K c1 c3 v5 v7 0 v7 μ) else (zRd μ 19 6 v7 (fun x11 => if w64 c3 = 0 then none else (J_Model_shares_72 (fun v5 v7 μ => L_Model_shares_36 c1 c3 K n v5 v7 μ) K c1 c3 v5 v7 ((w64 (c1 * x11)).tdiv (w64 c3)) v7 μ))))
set_option maxRecDepth 100000 in
theorem l_Model_shares_36 {c1 : Int} {c3 : Int} {K : Int → ZMem → Option ZRes} (hK : ∀ (k5 : Int) (μ : ZMem), AW cf_Model_shares S_Model.length S_Model S_Model 119 [(0, zR (some 0)), (3, zJ c3), (5, zJ k5)] [] μ 0 0 (K k5 μ)) : ∀ (n : Nat) (v5 : Int) (v7 : Int) (μ : ZMem), AW cf_Model_shares S_Model.length S_Model S_Model 36 [(0, zR (some 0)), (1, zJ c1), (3, zJ c3), (5, zJ v5), (7, zI v7)] [] μ 0 0 (L_Model_shares_36 c1 c3 K n v5 v7 μ) := by
  intro n
  induction n with
  | zero => intro v5 v7 μ; exact AW.noth
  | succ n ih =>
    intro v5 v7 μ
    rw [L_Model_shares_36]
    refine AW.iload (i := 7) (a := v7) (by decide +kernel) rfl (?_ : AW _ _ _ _ 38 _ _ _ _ _ _)
    refine AW.aload_n (i := 0) (a := 0) (by decide +kernel) rfl (?_ : AW _ _ _ _ 39 _ _ _ _ _ _)
    refine AW.getI (idx := 96) (ci := 9) (k := 5) (r := 0) (by decide +kernel) rfl rfl rfl (?_ : AW _ _ _ _ 42 _ _ _ _ _ _)
    refine AW.icmp_ge (off := 77) (tgt := 119) (by decide +kernel) (by decide) (fun _ => ?_) (fun _ => ?_)
    · refine AW.sub (L' := [(0, zR (some 0)), (3, zJ c3), (5, zJ v5)]) [0, 2, 3] rfl ?_
      exact hK v5 μ
    · refine AW.aload_n (i := 0) (a := 0) (by decide +kernel) rfl (?_ : AW _ _ _ _ 46 _ _ _ _ _ _)
      refine AW.getR (idx := 75) (ci := 9) (k := 32) (r := 0) (by decide +kernel) rfl rfl rfl (?_ : AW _ _ _ _ 49 _ _ _ _ _ _)
      refine AW.iload (i := 7) (a := v7) (by decide +kernel) rfl (?_ : AW _ _ _ _ 51 _ _ _ _ _ _)
      refine AW.lload_n (i := 3) (a := c3) (by decide +kernel) rfl (?_ : AW _ _ _ _ 52 _ _ _ _ _ _)
      refine AW.lconst0 (by decide +kernel) (?_ : AW _ _ _ _ 53 _ _ _ _ _ _)
      refine AW.lcmp_ne (off := 7) (tgt := 61) (by decide +kernel) (by decide +kernel) (by decide) (fun _ => ?_) (fun _ => ?_)
      · refine AW.lconst0 (by decide +kernel) (?_ : AW _ _ _ _ 58 _ _ _ _ _ _)
        refine AW.goto (off := 14) (tgt := 72) (by decide +kernel) (by decide) ?_
        exact j_Model_shares_72 c1 c3 ih hK v5 v7 0 v7 μ
      · refine AW.lload_n (i := 1) (a := c1) (by decide +kernel) rfl (?_ : AW _ _ _ _ 62 _ _ _ _ _ _)
        refine AW.aload_n (i := 0) (a := 0) (by decide +kernel) rfl (?_ : AW _ _ _ _ 63 _ _ _ _ _ _)
        refine AW.getR (idx := 72) (ci := 9) (k := 31) (r := 0) (by decide +kernel) rfl rfl rfl (?_ : AW _ _ _ _ 66 _ _ _ _ _ _)
        refine AW.iload (i := 7) (a := v7) (by decide +kernel) rfl (?_ : AW _ _ _ _ 68 _ _ _ _ _ _)
        refine AW.lald (r := 19) (by decide +kernel) rfl (fun x11 => (?_ : AW _ _ _ _ 69 _ _ _ _ _ _))
        refine AW.lmul (by decide +kernel) (?_ : AW _ _ _ _ 70 _ _ _ _ _ _)
        refine AW.lload_n (i := 3) (a := c3) (by decide +kernel) rfl (?_ : AW _ _ _ _ 71 _ _ _ _ _ _)
        refine AW.ldiv_if (K := fun _ => _) (by decide +kernel) (?_ : AW _ _ _ _ 72 _ _ _ _ _ _)
        exact j_Model_shares_72 c1 c3 ih hK v5 v7 ((w64 (c1 * x11)).tdiv (w64 c3)) v7 μ
def J_Model_shares_169 (R : Int → Int → Option ZRes) (K : Int → Option ZRes) (c3 : Int) (c5 : Int) (u7 : Int) (u8 : Int) (μ : ZMem) : Option ZRes := zLet (u8 + 1) (fun x16 => R u7 x16)
set_option maxRecDepth 100000 in
theorem j_Model_shares_169 {R : Int → Int → Option ZRes} {K : Int → Option ZRes} (μ : ZMem) (c3 : Int) (c5 : Int) (hR : ∀ (v7 : Int) (v8 : Int), AW cf_Model_shares S_Model.length S_Model S_Model 138 [(0, zR (some 0)), (3, zJ c3), (5, zJ c5), (7, zI v7), (8, zI v8)] [] μ 0 0 (R v7 v8)) (hK : ∀ (k7 : Int), AW cf_Model_shares S_Model.length S_Model S_Model 175 [(0, zR (some 0)), (3, zJ c3), (5, zJ c5), (7, zI k7)] [] μ 0 0 (K k7)) (u7 : Int) (u8 : Int) : AW cf_Model_shares S_Model.length S_Model S_Model 169 [(0, zR (some 0)), (3, zJ c3), (5, zJ c5), (7, zI u7), (8, zI u8)] [] μ 0 0 (J_Model_shares_169 R K c3 c5 u7 u8 μ) := by
  unfold J_Model_shares_169
  refine AW.iincL (i := 8) (n := 1) (a := u8) (L' := fun x16 => [(8, zI x16), (0, zR (some 0)), (3, zJ c3), (5, zJ c5), (7, zI u7)]) (by decide +kernel) rfl (by decide) (fun _ => rfl) (fun x16 => (?_ : AW _ _ _ _ 172 _ _ _ _ _ _))
  refine AW.goto (off := -34) (tgt := 138) (by decide +kernel) (by decide) ?_
  refine AW.sub (L' := [(0, zR (some 0)), (3, zJ c3), (5, zJ c5), (7, zI u7), (8, zI x16)]) [1, 2, 3, 4, 0] rfl ?_
  exact hR u7 x16
def L_Model_shares_138 (c3 : Int) (c5 : Int) (μ : ZMem) (K : Int → Option ZRes) : Nat → Int → Int → Option ZRes
  | 0, _, _ => none
  | n + 1, v7, v8 => if w32 (μ 0 5) ≤ w32 v8 then (K v7) else (zRd μ 21 6 v8 (fun x14 => zRd μ 21 6 v7 (fun x15 => if w64 x14 ≤ w64 x15 then (J_Model_shares_169 (fun v7 v8 => L_Model_shares_138 c3 c5 μ K n v7 v8) K c3 c5 v7 v8 μ) else (J_Model_shares_169 (fun v7 v8 => L_Model_shares_138 c3 c5 μ K n v7 v8) K c3 c5 v8 v8 μ))))
set_option maxRecDepth 100000 in
theorem l_Model_shares_138 {c3 : Int} {c5 : Int} {μ : ZMem} {K : Int → Option ZRes} (hK : ∀ (k7 : Int), AW cf_Model_shares S_Model.length S_Model S_Model 175 [(0, zR (some 0)), (3, zJ c3), (5, zJ c5), (7, zI k7)] [] μ 0 0 (K k7)) : ∀ (n : Nat) (v7 : Int) (v8 : Int), AW cf_Model_shares S_Model.length S_Model S_Model 138 [(0, zR (some 0)), (3, zJ c3), (5, zJ c5), (7, zI v7), (8, zI v8)] [] μ 0 0 (L_Model_shares_138 c3 c5 μ K n v7 v8) := by
  intro n
  induction n with
  | zero => intro v7 v8; exact AW.noth
  | succ n ih =>
    intro v7 v8
    rw [L_Model_shares_138]
    refine AW.iload (i := 8) (a := v8) (by decide +kernel) rfl (?_ : AW _ _ _ _ 140 _ _ _ _ _ _)
    refine AW.aload_n (i := 0) (a := 0) (by decide +kernel) rfl (?_ : AW _ _ _ _ 141 _ _ _ _ _ _)
    refine AW.getI (idx := 96) (ci := 9) (k := 5) (r := 0) (by decide +kernel) rfl rfl rfl (?_ : AW _ _ _ _ 144 _ _ _ _ _ _)
    refine AW.icmp_ge (off := 31) (tgt := 175) (by decide +kernel) (by decide) (fun _ => ?_) (fun _ => ?_)
    · refine AW.sub (L' := [(0, zR (some 0)), (3, zJ c3), (5, zJ c5), (7, zI v7)]) [0, 1, 2, 3] rfl ?_
      exact hK v7
    · refine AW.aload_n (i := 0) (a := 0) (by decide +kernel) rfl (?_ : AW _ _ _ _ 148 _ _ _ _ _ _)
      refine AW.getR (idx := 78) (ci := 9) (k := 33) (r := 0) (by decide +kernel) rfl rfl rfl (?_ : AW _ _ _ _ 151 _ _ _ _ _ _)
      refine AW.iload (i := 8) (a := v8) (by decide +kernel) rfl (?_ : AW _ _ _ _ 153 _ _ _ _ _ _)
      refine AW.lald (r := 21) (by decide +kernel) rfl (fun x14 => (?_ : AW _ _ _ _ 154 _ _ _ _ _ _))
      refine AW.aload_n (i := 0) (a := 0) (by decide +kernel) rfl (?_ : AW _ _ _ _ 155 _ _ _ _ _ _)
      refine AW.getR (idx := 78) (ci := 9) (k := 33) (r := 0) (by decide +kernel) rfl rfl rfl (?_ : AW _ _ _ _ 158 _ _ _ _ _ _)
      refine AW.iload (i := 7) (a := v7) (by decide +kernel) rfl (?_ : AW _ _ _ _ 160 _ _ _ _ _ _)
      refine AW.lald (r := 21) (by decide +kernel) rfl (fun x15 => (?_ : AW _ _ _ _ 161 _ _ _ _ _ _))
      refine AW.lcmp_le (off := 7) (tgt := 169) (by decide +kernel) (by decide +kernel) (by decide) (fun _ => ?_) (fun _ => ?_)
      · exact j_Model_shares_169 μ c3 c5 ih hK v7 v8
      · refine AW.iload (i := 8) (a := v8) (by decide +kernel) rfl (?_ : AW _ _ _ _ 167 _ _ _ _ _ _)
        refine AW.istore' (i := 7) (L' := [(7, zI v8), (0, zR (some 0)), (3, zJ c3), (5, zJ c5), (8, zI v8)]) (by decide +kernel) (by decide) rfl (?_ : AW _ _ _ _ 169 _ _ _ _ _ _)
        refine AW.sub (L' := [(0, zR (some 0)), (3, zJ c3), (5, zJ c5), (7, zI v8), (8, zI v8)]) [1, 2, 3, 0, 4] rfl ?_
        exact j_Model_shares_169 μ c3 c5 ih hK v8 v8
def L_Model_shares_119 (c3 : Int) (K : ZMem → Option ZRes) : Nat → Int → ZMem → Option ZRes
  | 0, _, _ => none
  | n + 1, v5, μ => if w64 c3 ≤ w64 0 then (K  μ) else (if w64 v5 ≤ w64 0 then (K  μ) else (L_Model_shares_138 c3 v5 μ (fun k17 => zRd μ 20 6 k17 (fun x18 => zWr μ 20 6 k17 (x18 + 1) (fun μ19 => zWr μ19 21 6 k17 (-1) (fun μ20 => zLet ((v5 - 1)) (fun x21 => L_Model_shares_119 c3 K n x21 μ20))))) zN 0 1))
set_option maxRecDepth 100000 in
theorem l_Model_shares_119 {c3 : Int} {K : ZMem → Option ZRes} (hK : ∀ (μ : ZMem), AW cf_Model_shares S_Model.length S_Model S_Model 205 [] [] μ 0 0 (K μ)) : ∀ (n : Nat) (v5 : Int) (μ : ZMem), AW cf_Model_shares S_Model.length S_Model S_Model 119 [(0, zR (some 0)), (3, zJ c3), (5, zJ v5)] [] μ 0 0 (L_Model_shares_119 c3 K n v5 μ) := by
  intro n
  induction n with
  | zero => intro v5 μ; exact AW.noth
  | succ n ih =>
    intro v5 μ
    rw [L_Model_shares_119]
    refine AW.lload_n (i := 3) (a := c3) (by decide +kernel) rfl (?_ : AW _ _ _ _ 120 _ _ _ _ _ _)
    refine AW.lconst0 (by decide +kernel) (?_ : AW _ _ _ _ 121 _ _ _ _ _ _)
    refine AW.lcmp_le (off := 83) (tgt := 205) (by decide +kernel) (by decide +kernel) (by decide) (fun _ => ?_) (fun _ => ?_)
    · refine AW.sub (L' := []) [] rfl ?_
      exact hK  μ
    · refine AW.lload (i := 5) (a := v5) (by decide +kernel) rfl (?_ : AW _ _ _ _ 127 _ _ _ _ _ _)
      refine AW.lconst0 (by decide +kernel) (?_ : AW _ _ _ _ 128 _ _ _ _ _ _)
      refine AW.lcmp_le (off := 76) (tgt := 205) (by decide +kernel) (by decide +kernel) (by decide) (fun _ => ?_) (fun _ => ?_)
      · refine AW.sub (L' := []) [] rfl ?_
        exact hK  μ
      · refine AW.iconst (n := 0) (by decide +kernel) (?_ : AW _ _ _ _ 133 _ _ _ _ _ _)
        refine AW.istore' (i := 7) (L' := [(7, zI 0), (0, zR (some 0)), (3, zJ c3), (5, zJ v5)]) (by decide +kernel) (by decide) rfl (?_ : AW _ _ _ _ 135 _ _ _ _ _ _)
        refine AW.iconst (n := 1) (by decide +kernel) (?_ : AW _ _ _ _ 136 _ _ _ _ _ _)
        refine AW.istore' (i := 8) (L' := [(8, zI 1), (7, zI 0), (0, zR (some 0)), (3, zJ c3), (5, zJ v5)]) (by decide +kernel) (by decide) rfl (?_ : AW _ _ _ _ 138 _ _ _ _ _ _)
        refine AW.sub (L' := [(0, zR (some 0)), (3, zJ c3), (5, zJ v5), (7, zI 0), (8, zI 1)]) [2, 3, 4, 1, 0] rfl ?_
        refine l_Model_shares_138 (fun k17 => ?_) zN _ _
        refine AW.aload_n (i := 0) (a := 0) (by decide +kernel) rfl (?_ : AW _ _ _ _ 176 _ _ _ _ _ _)
        refine AW.getR (idx := 75) (ci := 9) (k := 32) (r := 0) (by decide +kernel) rfl rfl rfl (?_ : AW _ _ _ _ 179 _ _ _ _ _ _)
        refine AW.iload (i := 7) (a := k17) (by decide +kernel) rfl (?_ : AW _ _ _ _ 181 _ _ _ _ _ _)
        refine AW.dup2 (by decide +kernel) rfl rfl (?_ : AW _ _ _ _ 182 _ _ _ _ _ _)
        refine AW.lald (r := 20) (by decide +kernel) rfl (fun x18 => (?_ : AW _ _ _ _ 183 _ _ _ _ _ _))
        refine AW.lconst1 (by decide +kernel) (?_ : AW _ _ _ _ 184 _ _ _ _ _ _)
        refine AW.ladd (by decide +kernel) (?_ : AW _ _ _ _ 185 _ _ _ _ _ _)
        refine AW.lastL (r := 20) (by decide +kernel) rfl (fun μ19 => (?_ : AW _ _ _ _ 186 _ _ _ _ _ _))
        refine AW.aload_n (i := 0) (a := 0) (by decide +kernel) rfl (?_ : AW _ _ _ _ 187 _ _ _ _ _ _)
        refine AW.getR (idx := 78) (ci := 9) (k := 33) (r := 0) (by decide +kernel) rfl rfl rfl (?_ : AW _ _ _ _ 190 _ _ _ _ _ _)
        refine AW.iload (i := 7) (a := k17) (by decide +kernel) rfl (?_ : AW _ _ _ _ 192 _ _ _ _ _ _)
        refine AW.ldc2 (idx := 127) (v := -1) (by decide +kernel) zk_X9_127 (?_ : AW _ _ _ _ 195 _ _ _ _ _ _)
        refine AW.lastL (r := 21) (by decide +kernel) rfl (fun μ20 => (?_ : AW _ _ _ _ 196 _ _ _ _ _ _))
        refine AW.lload (i := 5) (a := v5) (by decide +kernel) rfl (?_ : AW _ _ _ _ 198 _ _ _ _ _ _)
        refine AW.lconst1 (by decide +kernel) (?_ : AW _ _ _ _ 199 _ _ _ _ _ _)
        refine AW.lsub (by decide +kernel) (?_ : AW _ _ _ _ 200 _ _ _ _ _ _)
        refine AW.lstoreL (i := 5) (L' := fun x21 => [(5, zJ x21), (0, zR (some 0)), (3, zJ c3), (7, zI k17)]) (by decide +kernel) (by decide) (fun _ => rfl) (fun x21 => (?_ : AW _ _ _ _ 202 _ _ _ _ _ _))
        refine AW.goto (off := -83) (tgt := 119) (by decide +kernel) (by decide) ?_
        refine AW.sub (L' := [(0, zR (some 0)), (3, zJ c3), (5, zJ x21)]) [1, 2, 0] rfl ?_
        exact ih x21 μ20
def F_Model_shares (a1 : Int) (μ : ZMem) : Option ZRes := L_Model_shares_5 a1 μ (fun k4 => L_Model_shares_36 a1 k4 (fun k13 μ12 => L_Model_shares_119 k4 (fun μ22 => some (.inr none, μ22)) zN k13 μ12) zN a1 0 μ) zN 0 0
set_option maxRecDepth 100000 in
theorem w_Model_shares (a1 : Int) (μ : ZMem) : AW cf_Model_shares S_Model.length S_Model S_Model 0 [(0, zR (some 0)), (1, zJ a1)] [] μ 0 0 (F_Model_shares a1 μ) := by
  unfold F_Model_shares
  refine AW.lconst0 (by decide +kernel) (?_ : AW _ _ _ _ 1 _ _ _ _ _ _)
  refine AW.lstore_n' (i := 3) (L' := [(3, zJ 0), (0, zR (some 0)), (1, zJ a1)]) (by decide +kernel) (by decide) rfl (?_ : AW _ _ _ _ 2 _ _ _ _ _ _)
  refine AW.iconst (n := 0) (by decide +kernel) (?_ : AW _ _ _ _ 3 _ _ _ _ _ _)
  refine AW.istore' (i := 5) (L' := [(5, zI 0), (3, zJ 0), (0, zR (some 0)), (1, zJ a1)]) (by decide +kernel) (by decide) rfl (?_ : AW _ _ _ _ 5 _ _ _ _ _ _)
  refine AW.sub (L' := [(0, zR (some 0)), (1, zJ a1), (3, zJ 0), (5, zI 0)]) [2, 3, 1, 0] rfl ?_
  refine l_Model_shares_5 (fun k4 => ?_) zN _ _
  refine AW.lload_n (i := 1) (a := a1) (by decide +kernel) rfl (?_ : AW _ _ _ _ 31 _ _ _ _ _ _)
  refine AW.lstore' (i := 5) (L' := [(5, zJ a1), (0, zR (some 0)), (1, zJ a1), (3, zJ k4)]) (by decide +kernel) (by decide) rfl (?_ : AW _ _ _ _ 33 _ _ _ _ _ _)
  refine AW.iconst (n := 0) (by decide +kernel) (?_ : AW _ _ _ _ 34 _ _ _ _ _ _)
  refine AW.istore' (i := 7) (L' := [(7, zI 0), (5, zJ a1), (0, zR (some 0)), (1, zJ a1), (3, zJ k4)]) (by decide +kernel) (by decide) rfl (?_ : AW _ _ _ _ 36 _ _ _ _ _ _)
  refine AW.sub (L' := [(0, zR (some 0)), (1, zJ a1), (3, zJ k4), (5, zJ a1), (7, zI 0)]) [2, 3, 4, 1, 0] rfl ?_
  refine l_Model_shares_36 (fun k13 μ12 => ?_) zN _ _ _
  refine l_Model_shares_119 (fun μ22 => ?_) zN _ _
  exact AW.retv (by decide +kernel) rfl (by decide) (by decide)
theorem c_Model_shares (l : Launch) (hl : l.stackTraces = false) (a1 : Int) (μ : ZMem) (r : ZRes) (h : F_Model_shares a1 μ = some r) : ZC l cf_Model_shares S_Model S_Model [zR (some 0), zJ a1] μ r := ZC.of hl (by decide +kernel) rfl rfl zft_X9_ok (Nat.le_of_ble_eq_true rfl) h (w_Model_shares a1 μ)
/-! WeirLedgerModel.paysAll(JI)V -/
def cf_Model_paysAll : ZCf := (yX9_paysAll, cX9_paysAll, 5, none, [], 3, 0, 0, zft_X9, none)
theorem cal_Model_paysAll : zCallee cf_Model_paysAll 2 := ⟨rfl, zc_yX9_paysAll, by decide, by decide, by decide +kernel⟩
def J_Model_paysAll_43 (R : Int → ZMem → Option ZRes) (K : ZMem → Option ZRes) (c1 : Int) (c3 : Int) (u4 : Int) (y0 : Int) (y1 : Int) (μ : ZMem) : Option ZRes := zWr μ 19 6 y1 y0 (fun μ6 => zLet (u4 + 1) (fun x7 => R x7 μ6))
set_option maxRecDepth 100000 in
theorem j_Model_paysAll_43 {R : Int → ZMem → Option ZRes} {K : ZMem → Option ZRes} (c1 : Int) (c3 : Int) (hR : ∀ (v4 : Int) (μ : ZMem), AW cf_Model_paysAll S_Model.length S_Model S_Model 3 [(0, zR (some 0)), (1, zJ c1), (3, zI c3), (4, zI v4)] [] μ 0 0 (R v4 μ)) (hK : ∀ (μ : ZMem), AW cf_Model_paysAll S_Model.length S_Model S_Model 50 [(0, zR (some 0)), (1, zJ c1)] [] μ 0 0 (K μ)) (u4 : Int) (y0 : Int) (y1 : Int) (μ : ZMem) : AW cf_Model_paysAll S_Model.length S_Model S_Model 43 [(0, zR (some 0)), (1, zJ c1), (3, zI c3), (4, zI u4)] [zJ y0, zI y1, zR (some 19)] μ 0 0 (J_Model_paysAll_43 R K c1 c3 u4 y0 y1 μ) := by
  unfold J_Model_paysAll_43
  refine AW.lastL (r := 19) (by decide +kernel) rfl (fun μ6 => (?_ : AW _ _ _ _ 44 _ _ _ _ _ _))
  refine AW.iincL (i := 4) (n := 1) (a := u4) (L' := fun x7 => [(4, zI x7), (0, zR (some 0)), (1, zJ c1), (3, zI c3)]) (by decide +kernel) rfl (by decide) (fun _ => rfl) (fun x7 => (?_ : AW _ _ _ _ 47 _ _ _ _ _ _))
  refine AW.goto (off := -44) (tgt := 3) (by decide +kernel) (by decide) ?_
  refine AW.sub (L' := [(0, zR (some 0)), (1, zJ c1), (3, zI c3), (4, zI x7)]) [1, 2, 3, 0] rfl ?_
  exact hR x7 μ6
def L_Model_paysAll_3 (c1 : Int) (c3 : Int) (K : ZMem → Option ZRes) : Nat → Int → ZMem → Option ZRes
  | 0, _, _ => none
  | n + 1, v4, μ => if w32 (μ 0 5) ≤ w32 v4 then (K  μ) else (zC (F_Model_isExcused v4 c3 μ) (zkI (fun x2 μ1 => if w32 x2 = 0 then (zC (F_Model_placeOf v4 1 μ1) (zkI (fun x4 _ => zRd μ1 5 92 x4 (fun x5 => J_Model_paysAll_43 (fun v4 μ => L_Model_paysAll_3 c1 c3 K n v4 μ) K c1 c3 v4 x5 v4 μ1))) zX0) else (J_Model_paysAll_43 (fun v4 μ => L_Model_paysAll_3 c1 c3 K n v4 μ) K c1 c3 v4 0 v4 μ1))) zX0)
set_option maxRecDepth 100000 in
theorem l_Model_paysAll_3 {c1 : Int} {c3 : Int} {K : ZMem → Option ZRes} (hK : ∀ (μ : ZMem), AW cf_Model_paysAll S_Model.length S_Model S_Model 50 [(0, zR (some 0)), (1, zJ c1)] [] μ 0 0 (K μ)) : ∀ (n : Nat) (v4 : Int) (μ : ZMem), AW cf_Model_paysAll S_Model.length S_Model S_Model 3 [(0, zR (some 0)), (1, zJ c1), (3, zI c3), (4, zI v4)] [] μ 0 0 (L_Model_paysAll_3 c1 c3 K n v4 μ) := by
  intro n
  induction n with
  | zero => intro v4 μ; exact AW.noth
  | succ n ih =>
    intro v4 μ
    rw [L_Model_paysAll_3]
    refine AW.iload (i := 4) (a := v4) (by decide +kernel) rfl (?_ : AW _ _ _ _ 5 _ _ _ _ _ _)
    refine AW.aload_n (i := 0) (a := 0) (by decide +kernel) rfl (?_ : AW _ _ _ _ 6 _ _ _ _ _ _)
    refine AW.getI (idx := 96) (ci := 9) (k := 5) (r := 0) (by decide +kernel) rfl rfl rfl (?_ : AW _ _ _ _ 9 _ _ _ _ _ _)
    refine AW.icmp_ge (off := 41) (tgt := 50) (by decide +kernel) (by decide) (fun _ => ?_) (fun _ => ?_)
    · refine AW.sub (L' := [(0, zR (some 0)), (1, zJ c1)]) [0, 1] rfl ?_
      exact hK  μ
    · refine AW.aload_n (i := 0) (a := 0) (by decide +kernel) rfl (?_ : AW _ _ _ _ 13 _ _ _ _ _ _)
      refine AW.getR (idx := 72) (ci := 9) (k := 31) (r := 0) (by decide +kernel) rfl rfl rfl (?_ : AW _ _ _ _ 16 _ _ _ _ _ _)
      refine AW.iload (i := 4) (a := v4) (by decide +kernel) rfl (?_ : AW _ _ _ _ 18 _ _ _ _ _ _)
      refine AW.aload_n (i := 0) (a := 0) (by decide +kernel) rfl (?_ : AW _ _ _ _ 19 _ _ _ _ _ _)
      refine AW.iload (i := 4) (a := v4) (by decide +kernel) rfl (?_ : AW _ _ _ _ 21 _ _ _ _ _ _)
      refine AW.iload_n (i := 3) (a := c3) (by decide +kernel) rfl (?_ : AW _ _ _ _ 22 _ _ _ _ _ _)
      refine AW.callVw (g := cf_Model_isExcused) (av := [zI v4, zI c3]) (b0 := 0) (ci := 9) (idx := 106) (n := 2) (st := [zI v4, zR (some 19)]) (by decide +kernel) (fun l hl r hr => c_Model_isExcused l hl v4 c3 _ r hr) S_Model_wf rfl cal_Model_isExcused rfl (zw4 zm_X9_106 zi_yX9_isExcused zs_yX9_isExcused zn_X9) rfl rfl ⟨by decide, by decide, by decide, by decide⟩ (Nat.le_of_ble_eq_true rfl) (Or.inl rfl) (fun v μ1 => AW.kI (fun x2 => (?_ : AW _ _ _ _ 25 _ _ _ _ _ _)) v)
      refine AW.if_eq (off := 7) (tgt := 32) (by decide +kernel) (by decide) (fun _ => ?_) (fun _ => ?_)
      · refine AW.aload_n (i := 0) (a := 0) (by decide +kernel) rfl (?_ : AW _ _ _ _ 33 _ _ _ _ _ _)
        refine AW.getR (idx := 22) (ci := 9) (k := 7) (r := 0) (by decide +kernel) rfl rfl rfl (?_ : AW _ _ _ _ 36 _ _ _ _ _ _)
        refine AW.iload (i := 4) (a := v4) (by decide +kernel) rfl (?_ : AW _ _ _ _ 38 _ _ _ _ _ _)
        refine AW.iconst (n := 1) (by decide +kernel) (?_ : AW _ _ _ _ 39 _ _ _ _ _ _)
        refine AW.callP (g := cf_Model_placeOf) (av := [zI v4, zI 1]) (idx := 110) (n := 2) (st := [zR (some 5), zI v4, zR (some 19)]) (by decide +kernel) (fun l hl r hr => c_Model_placeOf l hl v4 1 _ r hr) rfl cal_Model_placeOf rfl (zw3 zm_X9_110 zt_yX9_placeOf zn_X9) ⟨by decide, by decide, by decide, by decide⟩ (Nat.le_of_ble_eq_true rfl) (fun v _ => AW.kI (fun x4 => (?_ : AW _ _ _ _ 42 _ _ _ _ _ _)) v)
        refine AW.lald (r := 5) (by decide +kernel) rfl (fun x5 => (?_ : AW _ _ _ _ 43 _ _ _ _ _ _))
        exact j_Model_paysAll_43 c1 c3 ih hK v4 x5 v4 μ1
      · refine AW.lconst0 (by decide +kernel) (?_ : AW _ _ _ _ 29 _ _ _ _ _ _)
        refine AW.goto (off := 14) (tgt := 43) (by decide +kernel) (by decide) ?_
        exact j_Model_paysAll_43 c1 c3 ih hK v4 0 v4 μ1
def L_Model_paysAll_58 (K : ZMem → Option ZRes) : Nat → Int → ZMem → Option ZRes
  | 0, _, _ => none
  | n + 1, v4, μ => if w32 (μ 0 5) ≤ w32 v4 then (K  μ) else (zC (F_Model_placeOf v4 1 μ) (zkI (fun x12 _ => zRd μ 5 92 x12 (fun x13 => zRd μ 20 6 v4 (fun x14 => zWr μ 5 92 x12 (x13 - x14) (fun μ15 => zC (F_Model_placeOf v4 2 μ15) (zkI (fun x17 _ => zRd μ15 5 92 x17 (fun x18 => zRd μ15 20 6 v4 (fun x19 => zWr μ15 5 92 x17 (x18 + x19) (fun μ20 => zRd μ20 5 92 90 (fun x21 => zRd μ20 6 1206 ((201 * v4) + x21) (fun x22 => zRd μ20 20 6 v4 (fun x23 => zWr μ20 6 1206 ((201 * v4) + x21) (x22 + x23) (fun μ24 => zLet (v4 + 1) (fun x25 => L_Model_paysAll_58 K n x25 μ24)))))))))) zX0))))) zX0)
set_option maxRecDepth 100000 in
theorem l_Model_paysAll_58 {K : ZMem → Option ZRes} (hK : ∀ (μ : ZMem), AW cf_Model_paysAll S_Model.length S_Model S_Model 145 [] [] μ 0 0 (K μ)) : ∀ (n : Nat) (v4 : Int) (μ : ZMem), AW cf_Model_paysAll S_Model.length S_Model S_Model 58 [(0, zR (some 0)), (4, zI v4)] [] μ 0 0 (L_Model_paysAll_58 K n v4 μ) := by
  intro n
  induction n with
  | zero => intro v4 μ; exact AW.noth
  | succ n ih =>
    intro v4 μ
    rw [L_Model_paysAll_58]
    refine AW.iload (i := 4) (a := v4) (by decide +kernel) rfl (?_ : AW _ _ _ _ 60 _ _ _ _ _ _)
    refine AW.aload_n (i := 0) (a := 0) (by decide +kernel) rfl (?_ : AW _ _ _ _ 61 _ _ _ _ _ _)
    refine AW.getI (idx := 96) (ci := 9) (k := 5) (r := 0) (by decide +kernel) rfl rfl rfl (?_ : AW _ _ _ _ 64 _ _ _ _ _ _)
    refine AW.icmp_ge (off := 81) (tgt := 145) (by decide +kernel) (by decide) (fun _ => ?_) (fun _ => ?_)
    · refine AW.sub (L' := []) [] rfl ?_
      exact hK  μ
    · refine AW.aload_n (i := 0) (a := 0) (by decide +kernel) rfl (?_ : AW _ _ _ _ 68 _ _ _ _ _ _)
      refine AW.getR (idx := 22) (ci := 9) (k := 7) (r := 0) (by decide +kernel) rfl rfl rfl (?_ : AW _ _ _ _ 71 _ _ _ _ _ _)
      refine AW.iload (i := 4) (a := v4) (by decide +kernel) rfl (?_ : AW _ _ _ _ 73 _ _ _ _ _ _)
      refine AW.iconst (n := 1) (by decide +kernel) (?_ : AW _ _ _ _ 74 _ _ _ _ _ _)
      refine AW.callP (g := cf_Model_placeOf) (av := [zI v4, zI 1]) (idx := 110) (n := 2) (st := [zR (some 5)]) (by decide +kernel) (fun l hl r hr => c_Model_placeOf l hl v4 1 _ r hr) rfl cal_Model_placeOf rfl (zw3 zm_X9_110 zt_yX9_placeOf zn_X9) ⟨by decide, by decide, by decide, by decide⟩ (Nat.le_of_ble_eq_true rfl) (fun v _ => AW.kI (fun x12 => (?_ : AW _ _ _ _ 77 _ _ _ _ _ _)) v)
      refine AW.dup2 (by decide +kernel) rfl rfl (?_ : AW _ _ _ _ 78 _ _ _ _ _ _)
      refine AW.lald (r := 5) (by decide +kernel) rfl (fun x13 => (?_ : AW _ _ _ _ 79 _ _ _ _ _ _))
      refine AW.aload_n (i := 0) (a := 0) (by decide +kernel) rfl (?_ : AW _ _ _ _ 80 _ _ _ _ _ _)
      refine AW.getR (idx := 75) (ci := 9) (k := 32) (r := 0) (by decide +kernel) rfl rfl rfl (?_ : AW _ _ _ _ 83 _ _ _ _ _ _)
      refine AW.iload (i := 4) (a := v4) (by decide +kernel) rfl (?_ : AW _ _ _ _ 85 _ _ _ _ _ _)
      refine AW.lald (r := 20) (by decide +kernel) rfl (fun x14 => (?_ : AW _ _ _ _ 86 _ _ _ _ _ _))
      refine AW.lsub (by decide +kernel) (?_ : AW _ _ _ _ 87 _ _ _ _ _ _)
      refine AW.lastL (r := 5) (by decide +kernel) rfl (fun μ15 => (?_ : AW _ _ _ _ 88 _ _ _ _ _ _))
      refine AW.aload_n (i := 0) (a := 0) (by decide +kernel) rfl (?_ : AW _ _ _ _ 89 _ _ _ _ _ _)
      refine AW.getR (idx := 22) (ci := 9) (k := 7) (r := 0) (by decide +kernel) rfl rfl rfl (?_ : AW _ _ _ _ 92 _ _ _ _ _ _)
      refine AW.iload (i := 4) (a := v4) (by decide +kernel) rfl (?_ : AW _ _ _ _ 94 _ _ _ _ _ _)
      refine AW.iconst (n := 2) (by decide +kernel) (?_ : AW _ _ _ _ 95 _ _ _ _ _ _)
      refine AW.callP (g := cf_Model_placeOf) (av := [zI v4, zI 2]) (idx := 110) (n := 2) (st := [zR (some 5)]) (by decide +kernel) (fun l hl r hr => c_Model_placeOf l hl v4 2 _ r hr) rfl cal_Model_placeOf rfl (zw3 zm_X9_110 zt_yX9_placeOf zn_X9) ⟨by decide, by decide, by decide, by decide⟩ (Nat.le_of_ble_eq_true rfl) (fun v _ => AW.kI (fun x17 => (?_ : AW _ _ _ _ 98 _ _ _ _ _ _)) v)
      refine AW.dup2 (by decide +kernel) rfl rfl (?_ : AW _ _ _ _ 99 _ _ _ _ _ _)
      refine AW.lald (r := 5) (by decide +kernel) rfl (fun x18 => (?_ : AW _ _ _ _ 100 _ _ _ _ _ _))
      refine AW.aload_n (i := 0) (a := 0) (by decide +kernel) rfl (?_ : AW _ _ _ _ 101 _ _ _ _ _ _)
      refine AW.getR (idx := 75) (ci := 9) (k := 32) (r := 0) (by decide +kernel) rfl rfl rfl (?_ : AW _ _ _ _ 104 _ _ _ _ _ _)
      refine AW.iload (i := 4) (a := v4) (by decide +kernel) rfl (?_ : AW _ _ _ _ 106 _ _ _ _ _ _)
      refine AW.lald (r := 20) (by decide +kernel) rfl (fun x19 => (?_ : AW _ _ _ _ 107 _ _ _ _ _ _))
      refine AW.ladd (by decide +kernel) (?_ : AW _ _ _ _ 108 _ _ _ _ _ _)
      refine AW.lastL (r := 5) (by decide +kernel) rfl (fun μ20 => (?_ : AW _ _ _ _ 109 _ _ _ _ _ _))
      refine AW.aload_n (i := 0) (a := 0) (by decide +kernel) rfl (?_ : AW _ _ _ _ 110 _ _ _ _ _ _)
      refine AW.getR (idx := 26) (ci := 9) (k := 8) (r := 0) (by decide +kernel) rfl rfl rfl (?_ : AW _ _ _ _ 113 _ _ _ _ _ _)
      refine AW.sipush (n := 201) (by decide +kernel) (by decide +kernel) (?_ : AW _ _ _ _ 116 _ _ _ _ _ _)
      refine AW.iload (i := 4) (a := v4) (by decide +kernel) rfl (?_ : AW _ _ _ _ 118 _ _ _ _ _ _)
      refine AW.imul (by decide +kernel) (?_ : AW _ _ _ _ 119 _ _ _ _ _ _)
      refine AW.aload_n (i := 0) (a := 0) (by decide +kernel) rfl (?_ : AW _ _ _ _ 120 _ _ _ _ _ _)
      refine AW.getR (idx := 22) (ci := 9) (k := 7) (r := 0) (by decide +kernel) rfl rfl rfl (?_ : AW _ _ _ _ 123 _ _ _ _ _ _)
      refine AW.bipush (n := 90) (by decide +kernel) (by decide +kernel) (?_ : AW _ _ _ _ 125 _ _ _ _ _ _)
      refine AW.lald (r := 5) (by decide +kernel) rfl (fun x21 => (?_ : AW _ _ _ _ 126 _ _ _ _ _ _))
      refine AW.l2i (by decide +kernel) (?_ : AW _ _ _ _ 127 _ _ _ _ _ _)
      refine AW.iadd (by decide +kernel) (?_ : AW _ _ _ _ 128 _ _ _ _ _ _)
      refine AW.dup2 (by decide +kernel) rfl rfl (?_ : AW _ _ _ _ 129 _ _ _ _ _ _)
      refine AW.lald (r := 6) (by decide +kernel) rfl (fun x22 => (?_ : AW _ _ _ _ 130 _ _ _ _ _ _))
      refine AW.aload_n (i := 0) (a := 0) (by decide +kernel) rfl (?_ : AW _ _ _ _ 131 _ _ _ _ _ _)
      refine AW.getR (idx := 75) (ci := 9) (k := 32) (r := 0) (by decide +kernel) rfl rfl rfl (?_ : AW _ _ _ _ 134 _ _ _ _ _ _)
      refine AW.iload (i := 4) (a := v4) (by decide +kernel) rfl (?_ : AW _ _ _ _ 136 _ _ _ _ _ _)
      refine AW.lald (r := 20) (by decide +kernel) rfl (fun x23 => (?_ : AW _ _ _ _ 137 _ _ _ _ _ _))
      refine AW.ladd (by decide +kernel) (?_ : AW _ _ _ _ 138 _ _ _ _ _ _)
      refine AW.lastL (r := 6) (by decide +kernel) rfl (fun μ24 => (?_ : AW _ _ _ _ 139 _ _ _ _ _ _))
      refine AW.iincL (i := 4) (n := 1) (a := v4) (L' := fun x25 => [(4, zI x25), (0, zR (some 0))]) (by decide +kernel) rfl (by decide) (fun _ => rfl) (fun x25 => (?_ : AW _ _ _ _ 142 _ _ _ _ _ _))
      refine AW.goto (off := -84) (tgt := 58) (by decide +kernel) (by decide) ?_
      refine AW.sub (L' := [(0, zR (some 0)), (4, zI x25)]) [1, 0] rfl ?_
      exact ih x25 μ24
def F_Model_paysAll (a1 : Int) (a2 : Int) (μ : ZMem) : Option ZRes := L_Model_paysAll_3 a1 a2 (fun μ8 => zC (F_Model_shares a1 μ8) (zkV (fun μ9 => L_Model_paysAll_58 (fun μ26 => some (.inr none, μ26)) zN 0 μ9)) zX0) zN 0 μ
set_option maxRecDepth 100000 in
theorem w_Model_paysAll (a1 : Int) (a2 : Int) (μ : ZMem) : AW cf_Model_paysAll S_Model.length S_Model S_Model 0 [(0, zR (some 0)), (1, zJ a1), (3, zI a2)] [] μ 0 0 (F_Model_paysAll a1 a2 μ) := by
  unfold F_Model_paysAll
  refine AW.iconst (n := 0) (by decide +kernel) (?_ : AW _ _ _ _ 1 _ _ _ _ _ _)
  refine AW.istore' (i := 4) (L' := [(4, zI 0), (0, zR (some 0)), (1, zJ a1), (3, zI a2)]) (by decide +kernel) (by decide) rfl (?_ : AW _ _ _ _ 3 _ _ _ _ _ _)
  refine AW.sub (L' := [(0, zR (some 0)), (1, zJ a1), (3, zI a2), (4, zI 0)]) [1, 2, 3, 0] rfl ?_
  refine l_Model_paysAll_3 (fun μ8 => ?_) zN _ _
  refine AW.aload_n (i := 0) (a := 0) (by decide +kernel) rfl (?_ : AW _ _ _ _ 51 _ _ _ _ _ _)
  refine AW.lload_n (i := 1) (a := a1) (by decide +kernel) rfl (?_ : AW _ _ _ _ 52 _ _ _ _ _ _)
  refine AW.callVw (g := cf_Model_shares) (av := [zJ a1]) (b0 := 0) (ci := 9) (idx := 133) (n := 1) (st := []) (by decide +kernel) (fun l hl r hr => c_Model_shares l hl a1 _ r hr) S_Model_wf rfl cal_Model_shares rfl (zw4 zm_X9_133 zi_yX9_shares zs_yX9_shares zn_X9) rfl rfl ⟨by decide, by decide, by decide, by decide⟩ (Nat.le_of_ble_eq_true rfl) (Or.inl rfl) (fun v μ9 => AW.kV (?_ : AW _ _ _ _ 55 _ _ _ _ _ _) v)
  refine AW.iconst (n := 0) (by decide +kernel) (?_ : AW _ _ _ _ 56 _ _ _ _ _ _)
  refine AW.istore' (i := 4) (L' := [(4, zI 0), (0, zR (some 0)), (1, zJ a1)]) (by decide +kernel) (by decide) rfl (?_ : AW _ _ _ _ 58 _ _ _ _ _ _)
  refine AW.sub (L' := [(0, zR (some 0)), (4, zI 0)]) [1, 0] rfl ?_
  refine l_Model_paysAll_58 (fun μ26 => ?_) zN _ _
  exact AW.retv (by decide +kernel) rfl (by decide) (by decide)
theorem c_Model_paysAll (l : Launch) (hl : l.stackTraces = false) (a1 : Int) (a2 : Int) (μ : ZMem) (r : ZRes) (h : F_Model_paysAll a1 a2 μ = some r) : ZC l cf_Model_paysAll S_Model S_Model [zR (some 0), zJ a1, zI a2] μ r := ZC.of hl (by decide +kernel) rfl rfl zft_X9_ok (Nat.le_of_ble_eq_true rfl) h (w_Model_paysAll a1 a2 μ)
/-! WeirLedgerModel.isDealwise()Z -/
def cf_Model_isDealwise : ZCf := (yX9_isDealwise, cX9_isDealwise, 1, some .boolean, [], 2, 0, 0, zft_X9, none)
theorem cal_Model_isDealwise : zCallee cf_Model_isDealwise 0 := ⟨rfl, zc_yX9_isDealwise, by decide, by decide, by decide +kernel⟩
def F_Model_isDealwise (μ : ZMem) : Option ZRes := zRd μ 2 7 3 (fun x1 => if w32 x1 = w32 1 then (some (.inr (some (zI 1)), μ)) else (some (.inr (some (zI 0)), μ)))
set_option maxRecDepth 100000 in
theorem w_Model_isDealwise (μ : ZMem) : AW cf_Model_isDealwise S_Model.length S_Model S_Model 0 [(0, zR (some 0))] [] μ 0 0 (F_Model_isDealwise μ) := by
  unfold F_Model_isDealwise
  refine AW.aload_n (i := 0) (a := 0) (by decide +kernel) rfl (?_ : AW _ _ _ _ 1 _ _ _ _ _ _)
  refine AW.getR (idx := 13) (ci := 9) (k := 2) (r := 0) (by decide +kernel) rfl rfl rfl (?_ : AW _ _ _ _ 4 _ _ _ _ _ _)
  refine AW.iconst (n := 3) (by decide +kernel) (?_ : AW _ _ _ _ 5 _ _ _ _ _ _)
  refine AW.iald (r := 2) (by decide +kernel) rfl (fun x1 => (?_ : AW _ _ _ _ 6 _ _ _ _ _ _))
  refine AW.iconst (n := 1) (by decide +kernel) (?_ : AW _ _ _ _ 7 _ _ _ _ _ _)
  refine AW.icmp_ne (off := 7) (tgt := 14) (by decide +kernel) (by decide) (fun _ => ?_) (fun _ => ?_)
  · refine AW.iconst (n := 1) (by decide +kernel) (?_ : AW _ _ _ _ 11 _ _ _ _ _ _)
    refine AW.goto (off := 4) (tgt := 15) (by decide +kernel) (by decide) ?_
    exact AW.retb1 (by decide +kernel) rfl (by decide) (by decide) (by decide)
  · refine AW.iconst (n := 0) (by decide +kernel) (?_ : AW _ _ _ _ 15 _ _ _ _ _ _)
    exact AW.retb1 (by decide +kernel) rfl (by decide) (by decide) (by decide)
theorem c_Model_isDealwise (l : Launch) (hl : l.stackTraces = false) (μ : ZMem) (r : ZRes) (h : F_Model_isDealwise μ = some r) : ZC l cf_Model_isDealwise S_Model S_Model [zR (some 0)] μ r := ZC.of hl (by decide +kernel) rfl rfl zft_X9_ok (Nat.le_of_ble_eq_true rfl) h (w_Model_isDealwise μ)
/-! WeirLedgerModel.takes(IIJ)J -/
def cf_Model_takes : ZCf := (yX9_takes, cX9_takes, 7, some .long, [], 3, 0, 0, zft_X9, none)
theorem cal_Model_takes : zCallee cf_Model_takes 3 := ⟨rfl, zc_yX9_takes, by decide, by decide, by decide +kernel⟩
def F_Model_takes (a1 : Int) (a2 : Int) (a3 : Int) (μ : ZMem) : Option ZRes := zC (F_Model_ladderAt a1 a2 μ) (zkI (fun x2 _ => zRd μ 5 92 x2 (fun x3 => zC (F_Model_lesser a3 x3 μ) (zkJ (fun x5 _ => zC (F_Model_ladderAt a1 a2 μ) (zkI (fun x7 _ => zRd μ 5 92 x7 (fun x8 => zWr μ 5 92 x7 (x8 - x5) (fun μ9 => some (.inr (some (zJ x5)), μ9))))) zX0)) zX0))) zX0
set_option maxRecDepth 100000 in
theorem w_Model_takes (a1 : Int) (a2 : Int) (a3 : Int) (μ : ZMem) : AW cf_Model_takes S_Model.length S_Model S_Model 0 [(0, zR (some 0)), (1, zI a1), (2, zI a2), (3, zJ a3)] [] μ 0 0 (F_Model_takes a1 a2 a3 μ) := by
  unfold F_Model_takes
  refine AW.lload_n (i := 3) (a := a3) (by decide +kernel) rfl (?_ : AW _ _ _ _ 1 _ _ _ _ _ _)
  refine AW.aload_n (i := 0) (a := 0) (by decide +kernel) rfl (?_ : AW _ _ _ _ 2 _ _ _ _ _ _)
  refine AW.getR (idx := 22) (ci := 9) (k := 7) (r := 0) (by decide +kernel) rfl rfl rfl (?_ : AW _ _ _ _ 5 _ _ _ _ _ _)
  refine AW.iload_n (i := 1) (a := a1) (by decide +kernel) rfl (?_ : AW _ _ _ _ 6 _ _ _ _ _ _)
  refine AW.iload_n (i := 2) (a := a2) (by decide +kernel) rfl (?_ : AW _ _ _ _ 7 _ _ _ _ _ _)
  refine AW.callP (g := cf_Model_ladderAt) (av := [zI a1, zI a2]) (idx := 141) (n := 2) (st := [zR (some 5), zJ a3]) (by decide +kernel) (fun l hl r hr => c_Model_ladderAt l hl a1 a2 _ r hr) rfl cal_Model_ladderAt rfl (zw3 zm_X9_141 zt_yX9_ladderAt zn_X9) ⟨by decide, by decide, by decide, by decide⟩ (Nat.le_of_ble_eq_true rfl) (fun v _ => AW.kI (fun x2 => (?_ : AW _ _ _ _ 10 _ _ _ _ _ _)) v)
  refine AW.lald (r := 5) (by decide +kernel) rfl (fun x3 => (?_ : AW _ _ _ _ 11 _ _ _ _ _ _))
  refine AW.callP (g := cf_Model_lesser) (av := [zJ a3, zJ x3]) (idx := 144) (n := 2) (st := []) (by decide +kernel) (fun l hl r hr => c_Model_lesser l hl a3 x3 _ r hr) rfl cal_Model_lesser rfl (zw3 zm_X9_144 zt_yX9_lesser zn_X9) ⟨by decide, by decide, by decide, by decide⟩ (Nat.le_of_ble_eq_true rfl) (fun v _ => AW.kJ (fun x5 => (?_ : AW _ _ _ _ 14 _ _ _ _ _ _)) v)
  refine AW.lstore' (i := 5) (L' := [(5, zJ x5), (0, zR (some 0)), (1, zI a1), (2, zI a2), (3, zJ a3)]) (by decide +kernel) (by decide) rfl (?_ : AW _ _ _ _ 16 _ _ _ _ _ _)
  refine AW.aload_n (i := 0) (a := 0) (by decide +kernel) rfl (?_ : AW _ _ _ _ 17 _ _ _ _ _ _)
  refine AW.getR (idx := 22) (ci := 9) (k := 7) (r := 0) (by decide +kernel) rfl rfl rfl (?_ : AW _ _ _ _ 20 _ _ _ _ _ _)
  refine AW.iload_n (i := 1) (a := a1) (by decide +kernel) rfl (?_ : AW _ _ _ _ 21 _ _ _ _ _ _)
  refine AW.iload_n (i := 2) (a := a2) (by decide +kernel) rfl (?_ : AW _ _ _ _ 22 _ _ _ _ _ _)
  refine AW.callP (g := cf_Model_ladderAt) (av := [zI a1, zI a2]) (idx := 141) (n := 2) (st := [zR (some 5)]) (by decide +kernel) (fun l hl r hr => c_Model_ladderAt l hl a1 a2 _ r hr) rfl cal_Model_ladderAt rfl (zw3 zm_X9_141 zt_yX9_ladderAt zn_X9) ⟨by decide, by decide, by decide, by decide⟩ (Nat.le_of_ble_eq_true rfl) (fun v _ => AW.kI (fun x7 => (?_ : AW _ _ _ _ 25 _ _ _ _ _ _)) v)
  refine AW.dup2 (by decide +kernel) rfl rfl (?_ : AW _ _ _ _ 26 _ _ _ _ _ _)
  refine AW.lald (r := 5) (by decide +kernel) rfl (fun x8 => (?_ : AW _ _ _ _ 27 _ _ _ _ _ _))
  refine AW.lload (i := 5) (a := x5) (by decide +kernel) rfl (?_ : AW _ _ _ _ 29 _ _ _ _ _ _)
  refine AW.lsub (by decide +kernel) (?_ : AW _ _ _ _ 30 _ _ _ _ _ _)
  refine AW.lastL (r := 5) (by decide +kernel) rfl (fun μ9 => (?_ : AW _ _ _ _ 31 _ _ _ _ _ _))
  refine AW.lload (i := 5) (a := x5) (by decide +kernel) rfl (?_ : AW _ _ _ _ 33 _ _ _ _ _ _)
  exact AW.retl (by decide +kernel) rfl (by decide) (by decide)
theorem c_Model_takes (l : Launch) (hl : l.stackTraces = false) (a1 : Int) (a2 : Int) (a3 : Int) (μ : ZMem) (r : ZRes) (h : F_Model_takes a1 a2 a3 μ = some r) : ZC l cf_Model_takes S_Model S_Model [zR (some 0), zI a1, zI a2, zJ a3] μ r := ZC.of hl (by decide +kernel) rfl rfl zft_X9_ok (Nat.le_of_ble_eq_true rfl) h (w_Model_takes a1 a2 a3 μ)
/-! WeirLedgerModel.caught(JJ)J -/
def cf_Model_caught : ZCf := (yX9_caught, cX9_caught, 19, some .long, [], 3, 0, 0, zft_X9, none)
theorem cal_Model_caught : zCallee cf_Model_caught 2 := ⟨rfl, zc_yX9_caught, by decide, by decide, by decide +kernel⟩
def J_Model_caught_94 (R : Int → Int → Option ZRes) (K : Int → Option ZRes) (c1 : Int) (c3 : Int) (u5 : Int) (c7 : Int) (c9 : Int) (u11 : Int) (y0 : Int) (μ : ZMem) : Option ZRes := zC (F_Model_lesser u5 ((100 * y0) + u11) μ) (zkJ (fun x8 _ => zLet ((u11 + 1)) (fun x9 => R x8 x9))) zX0
set_option maxRecDepth 100000 in
theorem j_Model_caught_94 {R : Int → Int → Option ZRes} {K : Int → Option ZRes} (μ : ZMem) (c1 : Int) (c3 : Int) (c7 : Int) (c9 : Int) (hR : ∀ (v5 : Int) (v11 : Int), AW cf_Model_caught S_Model.length S_Model S_Model 26 [(1, zJ c1), (3, zJ c3), (5, zJ v5), (7, zJ c7), (9, zJ c9), (11, zJ v11)] [] μ 0 0 (R v5 v11)) (hK : ∀ (k5 : Int), AW cf_Model_caught S_Model.length S_Model S_Model 121 [(5, zJ k5)] [] μ 0 0 (K k5)) (u5 : Int) (u11 : Int) (y0 : Int) : AW cf_Model_caught S_Model.length S_Model S_Model 94 [(1, zJ c1), (3, zJ c3), (5, zJ u5), (7, zJ c7), (9, zJ c9), (11, zJ u11)] [zJ y0] μ 0 0 (J_Model_caught_94 R K c1 c3 u5 c7 c9 u11 y0 μ) := by
  unfold J_Model_caught_94
  refine AW.lstore' (i := 17) (L' := [(17, zJ y0), (1, zJ c1), (3, zJ c3), (5, zJ u5), (7, zJ c7), (9, zJ c9), (11, zJ u11)]) (by decide +kernel) (by decide) rfl (?_ : AW _ _ _ _ 96 _ _ _ _ _ _)
  refine AW.lload (i := 5) (a := u5) (by decide +kernel) rfl (?_ : AW _ _ _ _ 98 _ _ _ _ _ _)
  refine AW.ldc2 (idx := 150) (v := 100) (by decide +kernel) zk_X9_150 (?_ : AW _ _ _ _ 101 _ _ _ _ _ _)
  refine AW.lload (i := 17) (a := y0) (by decide +kernel) rfl (?_ : AW _ _ _ _ 103 _ _ _ _ _ _)
  refine AW.lmul (by decide +kernel) (?_ : AW _ _ _ _ 104 _ _ _ _ _ _)
  refine AW.lload (i := 11) (a := u11) (by decide +kernel) rfl (?_ : AW _ _ _ _ 106 _ _ _ _ _ _)
  refine AW.ladd (by decide +kernel) (?_ : AW _ _ _ _ 107 _ _ _ _ _ _)
  refine AW.callP (g := cf_Model_lesser) (av := [zJ u5, zJ ((100 * y0) + u11)]) (idx := 144) (n := 2) (st := []) (by decide +kernel) (fun l hl r hr => c_Model_lesser l hl u5 ((100 * y0) + u11) _ r hr) rfl cal_Model_lesser rfl (zw3 zm_X9_144 zt_yX9_lesser zn_X9) ⟨by decide, by decide, by decide, by decide⟩ (Nat.le_of_ble_eq_true rfl) (fun v _ => AW.kJ (fun x8 => (?_ : AW _ _ _ _ 110 _ _ _ _ _ _)) v)
  refine AW.lstore' (i := 5) (L' := [(5, zJ x8), (17, zJ y0), (1, zJ c1), (3, zJ c3), (7, zJ c7), (9, zJ c9), (11, zJ u11)]) (by decide +kernel) (by decide) rfl (?_ : AW _ _ _ _ 112 _ _ _ _ _ _)
  refine AW.lload (i := 11) (a := u11) (by decide +kernel) rfl (?_ : AW _ _ _ _ 114 _ _ _ _ _ _)
  refine AW.lconst1 (by decide +kernel) (?_ : AW _ _ _ _ 115 _ _ _ _ _ _)
  refine AW.ladd (by decide +kernel) (?_ : AW _ _ _ _ 116 _ _ _ _ _ _)
  refine AW.lstoreL (i := 11) (L' := fun x9 => [(11, zJ x9), (5, zJ x8), (17, zJ y0), (1, zJ c1), (3, zJ c3), (7, zJ c7), (9, zJ c9)]) (by decide +kernel) (by decide) (fun _ => rfl) (fun x9 => (?_ : AW _ _ _ _ 118 _ _ _ _ _ _))
  refine AW.goto (off := -92) (tgt := 26) (by decide +kernel) (by decide) ?_
  refine AW.sub (L' := [(1, zJ c1), (3, zJ c3), (5, zJ x8), (7, zJ c7), (9, zJ c9), (11, zJ x9)]) [3, 4, 1, 5, 6, 0] rfl ?_
  exact hR x8 x9
def L_Model_caught_26 (c1 : Int) (c3 : Int) (c7 : Int) (c9 : Int) (μ : ZMem) (K : Int → Option ZRes) : Nat → Int → Int → Option ZRes
  | 0, _, _ => none
  | n + 1, v5, v11 => if w64 100 ≤ w64 v11 then (K v5) else (zLet (((c9 * ((c1 + c3) + v11)) - (100 * (c3 + ((w64 (c7 * v11)).tdiv (w64 100)))))) (fun x5 => zLet ((100 * (c7 - c9))) (fun x6 => if w64 0 < w64 x5 then (if w64 x6 = 0 then none else (J_Model_caught_94 (fun v5 v11 => L_Model_caught_26 c1 c3 c7 c9 μ K n v5 v11) K c1 c3 v5 c7 c9 v11 ((w64 ((x5 + x6) - 1)).tdiv (w64 x6)) μ)) else (J_Model_caught_94 (fun v5 v11 => L_Model_caught_26 c1 c3 c7 c9 μ K n v5 v11) K c1 c3 v5 c7 c9 v11 0 μ))))
set_option maxRecDepth 100000 in
theorem l_Model_caught_26 {c1 : Int} {c3 : Int} {c7 : Int} {c9 : Int} {μ : ZMem} {K : Int → Option ZRes} (hK : ∀ (k5 : Int), AW cf_Model_caught S_Model.length S_Model S_Model 121 [(5, zJ k5)] [] μ 0 0 (K k5)) : ∀ (n : Nat) (v5 : Int) (v11 : Int), AW cf_Model_caught S_Model.length S_Model S_Model 26 [(1, zJ c1), (3, zJ c3), (5, zJ v5), (7, zJ c7), (9, zJ c9), (11, zJ v11)] [] μ 0 0 (L_Model_caught_26 c1 c3 c7 c9 μ K n v5 v11) := by
  intro n
  induction n with
  | zero => intro v5 v11; exact AW.noth
  | succ n ih =>
    intro v5 v11
    rw [L_Model_caught_26]
    refine AW.lload (i := 11) (a := v11) (by decide +kernel) rfl (?_ : AW _ _ _ _ 28 _ _ _ _ _ _)
    refine AW.ldc2 (idx := 150) (v := 100) (by decide +kernel) zk_X9_150 (?_ : AW _ _ _ _ 31 _ _ _ _ _ _)
    refine AW.lcmp_ge (off := 89) (tgt := 121) (by decide +kernel) (by decide +kernel) (by decide) (fun _ => ?_) (fun _ => ?_)
    · refine AW.sub (L' := [(5, zJ v5)]) [2] rfl ?_
      exact hK v5
    · refine AW.lload (i := 9) (a := c9) (by decide +kernel) rfl (?_ : AW _ _ _ _ 37 _ _ _ _ _ _)
      refine AW.lload_n (i := 1) (a := c1) (by decide +kernel) rfl (?_ : AW _ _ _ _ 38 _ _ _ _ _ _)
      refine AW.lload_n (i := 3) (a := c3) (by decide +kernel) rfl (?_ : AW _ _ _ _ 39 _ _ _ _ _ _)
      refine AW.ladd (by decide +kernel) (?_ : AW _ _ _ _ 40 _ _ _ _ _ _)
      refine AW.lload (i := 11) (a := v11) (by decide +kernel) rfl (?_ : AW _ _ _ _ 42 _ _ _ _ _ _)
      refine AW.ladd (by decide +kernel) (?_ : AW _ _ _ _ 43 _ _ _ _ _ _)
      refine AW.lmul (by decide +kernel) (?_ : AW _ _ _ _ 44 _ _ _ _ _ _)
      refine AW.ldc2 (idx := 150) (v := 100) (by decide +kernel) zk_X9_150 (?_ : AW _ _ _ _ 47 _ _ _ _ _ _)
      refine AW.lload_n (i := 3) (a := c3) (by decide +kernel) rfl (?_ : AW _ _ _ _ 48 _ _ _ _ _ _)
      refine AW.lload (i := 7) (a := c7) (by decide +kernel) rfl (?_ : AW _ _ _ _ 50 _ _ _ _ _ _)
      refine AW.lload (i := 11) (a := v11) (by decide +kernel) rfl (?_ : AW _ _ _ _ 52 _ _ _ _ _ _)
      refine AW.lmul (by decide +kernel) (?_ : AW _ _ _ _ 53 _ _ _ _ _ _)
      refine AW.ldc2 (idx := 150) (v := 100) (by decide +kernel) zk_X9_150 (?_ : AW _ _ _ _ 56 _ _ _ _ _ _)
      refine AW.ldiv (by decide +kernel) (by decide +kernel) (?_ : AW _ _ _ _ 57 _ _ _ _ _ _)
      refine AW.ladd (by decide +kernel) (?_ : AW _ _ _ _ 58 _ _ _ _ _ _)
      refine AW.lmul (by decide +kernel) (?_ : AW _ _ _ _ 59 _ _ _ _ _ _)
      refine AW.lsub (by decide +kernel) (?_ : AW _ _ _ _ 60 _ _ _ _ _ _)
      refine AW.lstoreL (i := 13) (L' := fun x5 => [(13, zJ x5), (1, zJ c1), (3, zJ c3), (5, zJ v5), (7, zJ c7), (9, zJ c9), (11, zJ v11)]) (by decide +kernel) (by decide) (fun _ => rfl) (fun x5 => (?_ : AW _ _ _ _ 62 _ _ _ _ _ _))
      refine AW.ldc2 (idx := 150) (v := 100) (by decide +kernel) zk_X9_150 (?_ : AW _ _ _ _ 65 _ _ _ _ _ _)
      refine AW.lload (i := 7) (a := c7) (by decide +kernel) rfl (?_ : AW _ _ _ _ 67 _ _ _ _ _ _)
      refine AW.lload (i := 9) (a := c9) (by decide +kernel) rfl (?_ : AW _ _ _ _ 69 _ _ _ _ _ _)
      refine AW.lsub (by decide +kernel) (?_ : AW _ _ _ _ 70 _ _ _ _ _ _)
      refine AW.lmul (by decide +kernel) (?_ : AW _ _ _ _ 71 _ _ _ _ _ _)
      refine AW.lstoreL (i := 15) (L' := fun x6 => [(15, zJ x6), (13, zJ x5), (1, zJ c1), (3, zJ c3), (5, zJ v5), (7, zJ c7), (9, zJ c9), (11, zJ v11)]) (by decide +kernel) (by decide) (fun _ => rfl) (fun x6 => (?_ : AW _ _ _ _ 73 _ _ _ _ _ _))
      refine AW.lload (i := 13) (a := x5) (by decide +kernel) rfl (?_ : AW _ _ _ _ 75 _ _ _ _ _ _)
      refine AW.lconst0 (by decide +kernel) (?_ : AW _ _ _ _ 76 _ _ _ _ _ _)
      refine AW.lcmp_gt (off := 7) (tgt := 84) (by decide +kernel) (by decide +kernel) (by decide) (fun _ => ?_) (fun _ => ?_)
      · refine AW.lload (i := 13) (a := x5) (by decide +kernel) rfl (?_ : AW _ _ _ _ 86 _ _ _ _ _ _)
        refine AW.lload (i := 15) (a := x6) (by decide +kernel) rfl (?_ : AW _ _ _ _ 88 _ _ _ _ _ _)
        refine AW.ladd (by decide +kernel) (?_ : AW _ _ _ _ 89 _ _ _ _ _ _)
        refine AW.lconst1 (by decide +kernel) (?_ : AW _ _ _ _ 90 _ _ _ _ _ _)
        refine AW.lsub (by decide +kernel) (?_ : AW _ _ _ _ 91 _ _ _ _ _ _)
        refine AW.lload (i := 15) (a := x6) (by decide +kernel) rfl (?_ : AW _ _ _ _ 93 _ _ _ _ _ _)
        refine AW.ldiv_if (K := fun _ => _) (by decide +kernel) (?_ : AW _ _ _ _ 94 _ _ _ _ _ _)
        refine AW.sub (L' := [(1, zJ c1), (3, zJ c3), (5, zJ v5), (7, zJ c7), (9, zJ c9), (11, zJ v11)]) [2, 3, 4, 5, 6, 7] rfl ?_
        exact j_Model_caught_94 μ c1 c3 c7 c9 ih hK v5 v11 ((w64 ((x5 + x6) - 1)).tdiv (w64 x6))
      · refine AW.lconst0 (by decide +kernel) (?_ : AW _ _ _ _ 81 _ _ _ _ _ _)
        refine AW.goto (off := 13) (tgt := 94) (by decide +kernel) (by decide) ?_
        refine AW.sub (L' := [(1, zJ c1), (3, zJ c3), (5, zJ v5), (7, zJ c7), (9, zJ c9), (11, zJ v11)]) [2, 3, 4, 5, 6, 7] rfl ?_
        exact j_Model_caught_94 μ c1 c3 c7 c9 ih hK v5 v11 0
def F_Model_caught (a1 : Int) (a2 : Int) (μ : ZMem) : Option ZRes := zRd μ 2 7 1 (fun x1 => zLet ((w32 x1)) (fun x2 => zRd μ 2 7 2 (fun x3 => zLet ((w32 x3)) (fun x4 => L_Model_caught_26 a1 a2 x2 x4 μ (fun k10 => some (.inr (some (zJ k10)), μ)) zN 1000000000000 0))))
set_option maxRecDepth 100000 in
theorem w_Model_caught (a1 : Int) (a2 : Int) (μ : ZMem) : AW cf_Model_caught S_Model.length S_Model S_Model 0 [(0, zR (some 0)), (1, zJ a1), (3, zJ a2)] [] μ 0 0 (F_Model_caught a1 a2 μ) := by
  unfold F_Model_caught
  refine AW.ldc2 (idx := 148) (v := 1000000000000) (by decide +kernel) zk_X9_148 (?_ : AW _ _ _ _ 3 _ _ _ _ _ _)
  refine AW.lstore' (i := 5) (L' := [(5, zJ 1000000000000), (0, zR (some 0)), (1, zJ a1), (3, zJ a2)]) (by decide +kernel) (by decide) rfl (?_ : AW _ _ _ _ 5 _ _ _ _ _ _)
  refine AW.aload_n (i := 0) (a := 0) (by decide +kernel) rfl (?_ : AW _ _ _ _ 6 _ _ _ _ _ _)
  refine AW.getR (idx := 13) (ci := 9) (k := 2) (r := 0) (by decide +kernel) rfl rfl rfl (?_ : AW _ _ _ _ 9 _ _ _ _ _ _)
  refine AW.iconst (n := 1) (by decide +kernel) (?_ : AW _ _ _ _ 10 _ _ _ _ _ _)
  refine AW.iald (r := 2) (by decide +kernel) rfl (fun x1 => (?_ : AW _ _ _ _ 11 _ _ _ _ _ _))
  refine AW.i2l (by decide +kernel) (?_ : AW _ _ _ _ 12 _ _ _ _ _ _)
  refine AW.lstoreL (i := 7) (L' := fun x2 => [(7, zJ x2), (5, zJ 1000000000000), (0, zR (some 0)), (1, zJ a1), (3, zJ a2)]) (by decide +kernel) (by decide) (fun _ => rfl) (fun x2 => (?_ : AW _ _ _ _ 14 _ _ _ _ _ _))
  refine AW.aload_n (i := 0) (a := 0) (by decide +kernel) rfl (?_ : AW _ _ _ _ 15 _ _ _ _ _ _)
  refine AW.getR (idx := 13) (ci := 9) (k := 2) (r := 0) (by decide +kernel) rfl rfl rfl (?_ : AW _ _ _ _ 18 _ _ _ _ _ _)
  refine AW.iconst (n := 2) (by decide +kernel) (?_ : AW _ _ _ _ 19 _ _ _ _ _ _)
  refine AW.iald (r := 2) (by decide +kernel) rfl (fun x3 => (?_ : AW _ _ _ _ 20 _ _ _ _ _ _))
  refine AW.i2l (by decide +kernel) (?_ : AW _ _ _ _ 21 _ _ _ _ _ _)
  refine AW.lstoreL (i := 9) (L' := fun x4 => [(9, zJ x4), (7, zJ x2), (5, zJ 1000000000000), (0, zR (some 0)), (1, zJ a1), (3, zJ a2)]) (by decide +kernel) (by decide) (fun _ => rfl) (fun x4 => (?_ : AW _ _ _ _ 23 _ _ _ _ _ _))
  refine AW.lconst0 (by decide +kernel) (?_ : AW _ _ _ _ 24 _ _ _ _ _ _)
  refine AW.lstore' (i := 11) (L' := [(11, zJ 0), (9, zJ x4), (7, zJ x2), (5, zJ 1000000000000), (0, zR (some 0)), (1, zJ a1), (3, zJ a2)]) (by decide +kernel) (by decide) rfl (?_ : AW _ _ _ _ 26 _ _ _ _ _ _)
  refine AW.sub (L' := [(1, zJ a1), (3, zJ a2), (5, zJ 1000000000000), (7, zJ x2), (9, zJ x4), (11, zJ 0)]) [5, 6, 3, 2, 1, 0] rfl ?_
  refine l_Model_caught_26 (fun k10 => ?_) zN _ _
  refine AW.lload (i := 5) (a := k10) (by decide +kernel) rfl (?_ : AW _ _ _ _ 123 _ _ _ _ _ _)
  exact AW.retl (by decide +kernel) rfl (by decide) (by decide)
theorem c_Model_caught (l : Launch) (hl : l.stackTraces = false) (a1 : Int) (a2 : Int) (μ : ZMem) (r : ZRes) (h : F_Model_caught a1 a2 μ = some r) : ZC l cf_Model_caught S_Model S_Model [zR (some 0), zJ a1, zJ a2] μ r := ZC.of hl (by decide +kernel) rfl rfl zft_X9_ok (Nat.le_of_ble_eq_true rfl) h (w_Model_caught a1 a2 μ)
/-! WeirLedgerModel.fills(IZJ)V -/
def cf_Model_fills : ZCf := (yX9_fills, cX9_fills, 7, none, [], 4, 0, 0, zft_X9, none)
theorem cal_Model_fills : zCallee cf_Model_fills 3 := ⟨rfl, zc_yX9_fills, by decide, by decide, by decide +kernel⟩
def J_Model_fills_181 (a1 : Int) (a3 : Int) (u5 : Int) (y0 : Int) (y1 : Int) (μ : ZMem) : Option ZRes := zWr μ 22 4 y1 y0 (fun μ18 => zRd μ18 22 4 2 (fun x19 => zLet ((u5 - x19)) (fun x20 => zWr μ18 22 4 3 x20 (fun μ21 => zRd μ21 2 7 1 (fun x22 => zRd μ21 22 4 2 (fun x23 => zRd μ21 2 7 2 (fun x24 => zRd μ21 22 4 3 (fun x25 => zLet (zUp μ21 0 35 (((w64 ((w32 x22) * x23)).tdiv (w64 100)) + ((w64 ((w32 x24) * x25)).tdiv (w64 100)))) (fun μ26 => zLet (zUp μ26 0 36 (a3 - (μ26 0 35))) (fun μ27 => zC (F_Model_ladderAt a1 3 μ27) (zkI (fun x29 _ => zRd μ27 5 92 x29 (fun x30 => zWr μ27 5 92 x29 (x30 + (μ27 0 35)) (fun μ31 => zC (F_Model_ladderAt a1 2 μ31) (zkI (fun x33 _ => zRd μ31 5 92 x33 (fun x34 => zRd μ31 22 4 2 (fun x35 => zRd μ31 22 4 3 (fun x36 => zWr μ31 5 92 x33 (x34 + ((x35 + x36) - (μ31 0 35))) (fun μ37 => some (.inr none, μ37))))))) zX0)))) zX0))))))))))
set_option maxRecDepth 100000 in
theorem j_Model_fills_181 (a1 : Int) (a3 : Int) (u5 : Int) (y0 : Int) (y1 : Int) (μ : ZMem) : AW cf_Model_fills S_Model.length S_Model S_Model 181 [(0, zR (some 0)), (1, zI a1), (3, zJ a3), (5, zJ u5)] [zJ y0, zI y1, zR (some 22)] μ 0 0 (J_Model_fills_181 a1 a3 u5 y0 y1 μ) := by
  unfold J_Model_fills_181
  refine AW.lastL (r := 22) (by decide +kernel) rfl (fun μ18 => (?_ : AW _ _ _ _ 182 _ _ _ _ _ _))
  refine AW.lload (i := 5) (a := u5) (by decide +kernel) rfl (?_ : AW _ _ _ _ 184 _ _ _ _ _ _)
  refine AW.aload_n (i := 0) (a := 0) (by decide +kernel) rfl (?_ : AW _ _ _ _ 185 _ _ _ _ _ _)
  refine AW.getR (idx := 81) (ci := 9) (k := 34) (r := 0) (by decide +kernel) rfl rfl rfl (?_ : AW _ _ _ _ 188 _ _ _ _ _ _)
  refine AW.iconst (n := 2) (by decide +kernel) (?_ : AW _ _ _ _ 189 _ _ _ _ _ _)
  refine AW.lald (r := 22) (by decide +kernel) rfl (fun x19 => (?_ : AW _ _ _ _ 190 _ _ _ _ _ _))
  refine AW.lsub (by decide +kernel) (?_ : AW _ _ _ _ 191 _ _ _ _ _ _)
  refine AW.lstoreL (i := 5) (L' := fun x20 => [(5, zJ x20), (0, zR (some 0)), (1, zI a1), (3, zJ a3)]) (by decide +kernel) (by decide) (fun _ => rfl) (fun x20 => (?_ : AW _ _ _ _ 193 _ _ _ _ _ _))
  refine AW.aload_n (i := 0) (a := 0) (by decide +kernel) rfl (?_ : AW _ _ _ _ 194 _ _ _ _ _ _)
  refine AW.getR (idx := 81) (ci := 9) (k := 34) (r := 0) (by decide +kernel) rfl rfl rfl (?_ : AW _ _ _ _ 197 _ _ _ _ _ _)
  refine AW.iconst (n := 3) (by decide +kernel) (?_ : AW _ _ _ _ 198 _ _ _ _ _ _)
  refine AW.lload (i := 5) (a := x20) (by decide +kernel) rfl (?_ : AW _ _ _ _ 200 _ _ _ _ _ _)
  refine AW.lastL (r := 22) (by decide +kernel) rfl (fun μ21 => (?_ : AW _ _ _ _ 201 _ _ _ _ _ _))
  refine AW.aload_n (i := 0) (a := 0) (by decide +kernel) rfl (?_ : AW _ _ _ _ 202 _ _ _ _ _ _)
  refine AW.aload_n (i := 0) (a := 0) (by decide +kernel) rfl (?_ : AW _ _ _ _ 203 _ _ _ _ _ _)
  refine AW.getR (idx := 13) (ci := 9) (k := 2) (r := 0) (by decide +kernel) rfl rfl rfl (?_ : AW _ _ _ _ 206 _ _ _ _ _ _)
  refine AW.iconst (n := 1) (by decide +kernel) (?_ : AW _ _ _ _ 207 _ _ _ _ _ _)
  refine AW.iald (r := 2) (by decide +kernel) rfl (fun x22 => (?_ : AW _ _ _ _ 208 _ _ _ _ _ _))
  refine AW.i2l (by decide +kernel) (?_ : AW _ _ _ _ 209 _ _ _ _ _ _)
  refine AW.aload_n (i := 0) (a := 0) (by decide +kernel) rfl (?_ : AW _ _ _ _ 210 _ _ _ _ _ _)
  refine AW.getR (idx := 81) (ci := 9) (k := 34) (r := 0) (by decide +kernel) rfl rfl rfl (?_ : AW _ _ _ _ 213 _ _ _ _ _ _)
  refine AW.iconst (n := 2) (by decide +kernel) (?_ : AW _ _ _ _ 214 _ _ _ _ _ _)
  refine AW.lald (r := 22) (by decide +kernel) rfl (fun x23 => (?_ : AW _ _ _ _ 215 _ _ _ _ _ _))
  refine AW.lmul (by decide +kernel) (?_ : AW _ _ _ _ 216 _ _ _ _ _ _)
  refine AW.ldc2 (idx := 150) (v := 100) (by decide +kernel) zk_X9_150 (?_ : AW _ _ _ _ 219 _ _ _ _ _ _)
  refine AW.ldiv (by decide +kernel) (by decide +kernel) (?_ : AW _ _ _ _ 220 _ _ _ _ _ _)
  refine AW.aload_n (i := 0) (a := 0) (by decide +kernel) rfl (?_ : AW _ _ _ _ 221 _ _ _ _ _ _)
  refine AW.getR (idx := 13) (ci := 9) (k := 2) (r := 0) (by decide +kernel) rfl rfl rfl (?_ : AW _ _ _ _ 224 _ _ _ _ _ _)
  refine AW.iconst (n := 2) (by decide +kernel) (?_ : AW _ _ _ _ 225 _ _ _ _ _ _)
  refine AW.iald (r := 2) (by decide +kernel) rfl (fun x24 => (?_ : AW _ _ _ _ 226 _ _ _ _ _ _))
  refine AW.i2l (by decide +kernel) (?_ : AW _ _ _ _ 227 _ _ _ _ _ _)
  refine AW.aload_n (i := 0) (a := 0) (by decide +kernel) rfl (?_ : AW _ _ _ _ 228 _ _ _ _ _ _)
  refine AW.getR (idx := 81) (ci := 9) (k := 34) (r := 0) (by decide +kernel) rfl rfl rfl (?_ : AW _ _ _ _ 231 _ _ _ _ _ _)
  refine AW.iconst (n := 3) (by decide +kernel) (?_ : AW _ _ _ _ 232 _ _ _ _ _ _)
  refine AW.lald (r := 22) (by decide +kernel) rfl (fun x25 => (?_ : AW _ _ _ _ 233 _ _ _ _ _ _))
  refine AW.lmul (by decide +kernel) (?_ : AW _ _ _ _ 234 _ _ _ _ _ _)
  refine AW.ldc2 (idx := 150) (v := 100) (by decide +kernel) zk_X9_150 (?_ : AW _ _ _ _ 237 _ _ _ _ _ _)
  refine AW.ldiv (by decide +kernel) (by decide +kernel) (?_ : AW _ _ _ _ 238 _ _ _ _ _ _)
  refine AW.ladd (by decide +kernel) (?_ : AW _ _ _ _ 239 _ _ _ _ _ _)
  refine AW.putlL (idx := 159) (ci := 9) (k := 35) (r := 0) (by decide +kernel) rfl rfl rfl (fun μ26 => (?_ : AW _ _ _ _ 242 _ _ _ _ _ _))
  refine AW.aload_n (i := 0) (a := 0) (by decide +kernel) rfl (?_ : AW _ _ _ _ 243 _ _ _ _ _ _)
  refine AW.lload_n (i := 3) (a := a3) (by decide +kernel) rfl (?_ : AW _ _ _ _ 244 _ _ _ _ _ _)
  refine AW.aload_n (i := 0) (a := 0) (by decide +kernel) rfl (?_ : AW _ _ _ _ 245 _ _ _ _ _ _)
  refine AW.getJ (idx := 159) (ci := 9) (k := 35) (r := 0) (by decide +kernel) rfl rfl rfl (?_ : AW _ _ _ _ 248 _ _ _ _ _ _)
  refine AW.lsub (by decide +kernel) (?_ : AW _ _ _ _ 249 _ _ _ _ _ _)
  refine AW.putlL (idx := 163) (ci := 9) (k := 36) (r := 0) (by decide +kernel) rfl rfl rfl (fun μ27 => (?_ : AW _ _ _ _ 252 _ _ _ _ _ _))
  refine AW.aload_n (i := 0) (a := 0) (by decide +kernel) rfl (?_ : AW _ _ _ _ 253 _ _ _ _ _ _)
  refine AW.getR (idx := 22) (ci := 9) (k := 7) (r := 0) (by decide +kernel) rfl rfl rfl (?_ : AW _ _ _ _ 256 _ _ _ _ _ _)
  refine AW.iload_n (i := 1) (a := a1) (by decide +kernel) rfl (?_ : AW _ _ _ _ 257 _ _ _ _ _ _)
  refine AW.iconst (n := 3) (by decide +kernel) (?_ : AW _ _ _ _ 258 _ _ _ _ _ _)
  refine AW.callP (g := cf_Model_ladderAt) (av := [zI a1, zI 3]) (idx := 141) (n := 2) (st := [zR (some 5)]) (by decide +kernel) (fun l hl r hr => c_Model_ladderAt l hl a1 3 _ r hr) rfl cal_Model_ladderAt rfl (zw3 zm_X9_141 zt_yX9_ladderAt zn_X9) ⟨by decide, by decide, by decide, by decide⟩ (Nat.le_of_ble_eq_true rfl) (fun v _ => AW.kI (fun x29 => (?_ : AW _ _ _ _ 261 _ _ _ _ _ _)) v)
  refine AW.dup2 (by decide +kernel) rfl rfl (?_ : AW _ _ _ _ 262 _ _ _ _ _ _)
  refine AW.lald (r := 5) (by decide +kernel) rfl (fun x30 => (?_ : AW _ _ _ _ 263 _ _ _ _ _ _))
  refine AW.aload_n (i := 0) (a := 0) (by decide +kernel) rfl (?_ : AW _ _ _ _ 264 _ _ _ _ _ _)
  refine AW.getJ (idx := 159) (ci := 9) (k := 35) (r := 0) (by decide +kernel) rfl rfl rfl (?_ : AW _ _ _ _ 267 _ _ _ _ _ _)
  refine AW.ladd (by decide +kernel) (?_ : AW _ _ _ _ 268 _ _ _ _ _ _)
  refine AW.lastL (r := 5) (by decide +kernel) rfl (fun μ31 => (?_ : AW _ _ _ _ 269 _ _ _ _ _ _))
  refine AW.aload_n (i := 0) (a := 0) (by decide +kernel) rfl (?_ : AW _ _ _ _ 270 _ _ _ _ _ _)
  refine AW.getR (idx := 22) (ci := 9) (k := 7) (r := 0) (by decide +kernel) rfl rfl rfl (?_ : AW _ _ _ _ 273 _ _ _ _ _ _)
  refine AW.iload_n (i := 1) (a := a1) (by decide +kernel) rfl (?_ : AW _ _ _ _ 274 _ _ _ _ _ _)
  refine AW.iconst (n := 2) (by decide +kernel) (?_ : AW _ _ _ _ 275 _ _ _ _ _ _)
  refine AW.callP (g := cf_Model_ladderAt) (av := [zI a1, zI 2]) (idx := 141) (n := 2) (st := [zR (some 5)]) (by decide +kernel) (fun l hl r hr => c_Model_ladderAt l hl a1 2 _ r hr) rfl cal_Model_ladderAt rfl (zw3 zm_X9_141 zt_yX9_ladderAt zn_X9) ⟨by decide, by decide, by decide, by decide⟩ (Nat.le_of_ble_eq_true rfl) (fun v _ => AW.kI (fun x33 => (?_ : AW _ _ _ _ 278 _ _ _ _ _ _)) v)
  refine AW.dup2 (by decide +kernel) rfl rfl (?_ : AW _ _ _ _ 279 _ _ _ _ _ _)
  refine AW.lald (r := 5) (by decide +kernel) rfl (fun x34 => (?_ : AW _ _ _ _ 280 _ _ _ _ _ _))
  refine AW.aload_n (i := 0) (a := 0) (by decide +kernel) rfl (?_ : AW _ _ _ _ 281 _ _ _ _ _ _)
  refine AW.getR (idx := 81) (ci := 9) (k := 34) (r := 0) (by decide +kernel) rfl rfl rfl (?_ : AW _ _ _ _ 284 _ _ _ _ _ _)
  refine AW.iconst (n := 2) (by decide +kernel) (?_ : AW _ _ _ _ 285 _ _ _ _ _ _)
  refine AW.lald (r := 22) (by decide +kernel) rfl (fun x35 => (?_ : AW _ _ _ _ 286 _ _ _ _ _ _))
  refine AW.aload_n (i := 0) (a := 0) (by decide +kernel) rfl (?_ : AW _ _ _ _ 287 _ _ _ _ _ _)
  refine AW.getR (idx := 81) (ci := 9) (k := 34) (r := 0) (by decide +kernel) rfl rfl rfl (?_ : AW _ _ _ _ 290 _ _ _ _ _ _)
  refine AW.iconst (n := 3) (by decide +kernel) (?_ : AW _ _ _ _ 291 _ _ _ _ _ _)
  refine AW.lald (r := 22) (by decide +kernel) rfl (fun x36 => (?_ : AW _ _ _ _ 292 _ _ _ _ _ _))
  refine AW.ladd (by decide +kernel) (?_ : AW _ _ _ _ 293 _ _ _ _ _ _)
  refine AW.aload_n (i := 0) (a := 0) (by decide +kernel) rfl (?_ : AW _ _ _ _ 294 _ _ _ _ _ _)
  refine AW.getJ (idx := 159) (ci := 9) (k := 35) (r := 0) (by decide +kernel) rfl rfl rfl (?_ : AW _ _ _ _ 297 _ _ _ _ _ _)
  refine AW.lsub (by decide +kernel) (?_ : AW _ _ _ _ 298 _ _ _ _ _ _)
  refine AW.ladd (by decide +kernel) (?_ : AW _ _ _ _ 299 _ _ _ _ _ _)
  refine AW.lastL (r := 5) (by decide +kernel) rfl (fun μ37 => (?_ : AW _ _ _ _ 300 _ _ _ _ _ _))
  exact AW.retv (by decide +kernel) rfl (by decide) (by decide)
def J_Model_fills_98 (a1 : Int) (a3 : Int) (u5 : Int) (μ : ZMem) : Option ZRes := zRd μ 22 4 1 (fun x9 => zLet ((u5 - x9)) (fun x10 => zC (F_Model_ladderAt a1 2 μ) (zkI (fun x12 _ => zRd μ 5 92 x12 (fun x13 => zRd μ 22 4 1 (fun x14 => zWr μ 5 92 x12 (x13 + x14) (fun μ15 => zRd μ15 2 7 1 (fun x16 => zRd μ15 2 7 2 (fun x17 => if w32 x16 ≤ w32 x17 then (J_Model_fills_181 a1 a3 x10 0 2 μ15) else (zC (F_Model_ladderAt a1 2 μ15) (zkI (fun x39 _ => zRd μ15 5 92 x39 (fun x40 => zC (F_Model_ladderAt a1 3 μ15) (zkI (fun x42 _ => zRd μ15 5 92 x42 (fun x43 => zC (F_Model_caught x40 x43 μ15) (zkJ (fun x45 μ44 => zC (F_Model_lesser x10 x45 μ44) (zkJ (fun x47 _ => J_Model_fills_181 a1 a3 x10 x47 2 μ44)) zX0)) zX0))) zX0))) zX0)))))))) zX0))
set_option maxRecDepth 100000 in
theorem j_Model_fills_98 (a1 : Int) (a3 : Int) (u5 : Int) (μ : ZMem) : AW cf_Model_fills S_Model.length S_Model S_Model 98 [(0, zR (some 0)), (1, zI a1), (3, zJ a3), (5, zJ u5)] [] μ 0 0 (J_Model_fills_98 a1 a3 u5 μ) := by
  unfold J_Model_fills_98
  refine AW.lload (i := 5) (a := u5) (by decide +kernel) rfl (?_ : AW _ _ _ _ 100 _ _ _ _ _ _)
  refine AW.aload_n (i := 0) (a := 0) (by decide +kernel) rfl (?_ : AW _ _ _ _ 101 _ _ _ _ _ _)
  refine AW.getR (idx := 81) (ci := 9) (k := 34) (r := 0) (by decide +kernel) rfl rfl rfl (?_ : AW _ _ _ _ 104 _ _ _ _ _ _)
  refine AW.iconst (n := 1) (by decide +kernel) (?_ : AW _ _ _ _ 105 _ _ _ _ _ _)
  refine AW.lald (r := 22) (by decide +kernel) rfl (fun x9 => (?_ : AW _ _ _ _ 106 _ _ _ _ _ _))
  refine AW.lsub (by decide +kernel) (?_ : AW _ _ _ _ 107 _ _ _ _ _ _)
  refine AW.lstoreL (i := 5) (L' := fun x10 => [(5, zJ x10), (0, zR (some 0)), (1, zI a1), (3, zJ a3)]) (by decide +kernel) (by decide) (fun _ => rfl) (fun x10 => (?_ : AW _ _ _ _ 109 _ _ _ _ _ _))
  refine AW.aload_n (i := 0) (a := 0) (by decide +kernel) rfl (?_ : AW _ _ _ _ 110 _ _ _ _ _ _)
  refine AW.getR (idx := 22) (ci := 9) (k := 7) (r := 0) (by decide +kernel) rfl rfl rfl (?_ : AW _ _ _ _ 113 _ _ _ _ _ _)
  refine AW.iload_n (i := 1) (a := a1) (by decide +kernel) rfl (?_ : AW _ _ _ _ 114 _ _ _ _ _ _)
  refine AW.iconst (n := 2) (by decide +kernel) (?_ : AW _ _ _ _ 115 _ _ _ _ _ _)
  refine AW.callP (g := cf_Model_ladderAt) (av := [zI a1, zI 2]) (idx := 141) (n := 2) (st := [zR (some 5)]) (by decide +kernel) (fun l hl r hr => c_Model_ladderAt l hl a1 2 _ r hr) rfl cal_Model_ladderAt rfl (zw3 zm_X9_141 zt_yX9_ladderAt zn_X9) ⟨by decide, by decide, by decide, by decide⟩ (Nat.le_of_ble_eq_true rfl) (fun v _ => AW.kI (fun x12 => (?_ : AW _ _ _ _ 118 _ _ _ _ _ _)) v)
  refine AW.dup2 (by decide +kernel) rfl rfl (?_ : AW _ _ _ _ 119 _ _ _ _ _ _)
  refine AW.lald (r := 5) (by decide +kernel) rfl (fun x13 => (?_ : AW _ _ _ _ 120 _ _ _ _ _ _))
  refine AW.aload_n (i := 0) (a := 0) (by decide +kernel) rfl (?_ : AW _ _ _ _ 121 _ _ _ _ _ _)
  refine AW.getR (idx := 81) (ci := 9) (k := 34) (r := 0) (by decide +kernel) rfl rfl rfl (?_ : AW _ _ _ _ 124 _ _ _ _ _ _)
  refine AW.iconst (n := 1) (by decide +kernel) (?_ : AW _ _ _ _ 125 _ _ _ _ _ _)
  refine AW.lald (r := 22) (by decide +kernel) rfl (fun x14 => (?_ : AW _ _ _ _ 126 _ _ _ _ _ _))
  refine AW.ladd (by decide +kernel) (?_ : AW _ _ _ _ 127 _ _ _ _ _ _)
  refine AW.lastL (r := 5) (by decide +kernel) rfl (fun μ15 => (?_ : AW _ _ _ _ 128 _ _ _ _ _ _))
  refine AW.aload_n (i := 0) (a := 0) (by decide +kernel) rfl (?_ : AW _ _ _ _ 129 _ _ _ _ _ _)
  refine AW.getR (idx := 81) (ci := 9) (k := 34) (r := 0) (by decide +kernel) rfl rfl rfl (?_ : AW _ _ _ _ 132 _ _ _ _ _ _)
  refine AW.iconst (n := 2) (by decide +kernel) (?_ : AW _ _ _ _ 133 _ _ _ _ _ _)
  refine AW.aload_n (i := 0) (a := 0) (by decide +kernel) rfl (?_ : AW _ _ _ _ 134 _ _ _ _ _ _)
  refine AW.getR (idx := 13) (ci := 9) (k := 2) (r := 0) (by decide +kernel) rfl rfl rfl (?_ : AW _ _ _ _ 137 _ _ _ _ _ _)
  refine AW.iconst (n := 1) (by decide +kernel) (?_ : AW _ _ _ _ 138 _ _ _ _ _ _)
  refine AW.iald (r := 2) (by decide +kernel) rfl (fun x16 => (?_ : AW _ _ _ _ 139 _ _ _ _ _ _))
  refine AW.aload_n (i := 0) (a := 0) (by decide +kernel) rfl (?_ : AW _ _ _ _ 140 _ _ _ _ _ _)
  refine AW.getR (idx := 13) (ci := 9) (k := 2) (r := 0) (by decide +kernel) rfl rfl rfl (?_ : AW _ _ _ _ 143 _ _ _ _ _ _)
  refine AW.iconst (n := 2) (by decide +kernel) (?_ : AW _ _ _ _ 144 _ _ _ _ _ _)
  refine AW.iald (r := 2) (by decide +kernel) rfl (fun x17 => (?_ : AW _ _ _ _ 145 _ _ _ _ _ _))
  refine AW.icmp_le (off := 35) (tgt := 180) (by decide +kernel) (by decide) (fun _ => ?_) (fun _ => ?_)
  · refine AW.lconst0 (by decide +kernel) (?_ : AW _ _ _ _ 181 _ _ _ _ _ _)
    refine AW.sub (L' := [(0, zR (some 0)), (1, zI a1), (3, zJ a3), (5, zJ x10)]) [1, 2, 3, 0] rfl ?_
    exact j_Model_fills_181 a1 a3 x10 0 2 μ15
  · refine AW.lload (i := 5) (a := x10) (by decide +kernel) rfl (?_ : AW _ _ _ _ 150 _ _ _ _ _ _)
    refine AW.aload_n (i := 0) (a := 0) (by decide +kernel) rfl (?_ : AW _ _ _ _ 151 _ _ _ _ _ _)
    refine AW.aload_n (i := 0) (a := 0) (by decide +kernel) rfl (?_ : AW _ _ _ _ 152 _ _ _ _ _ _)
    refine AW.getR (idx := 22) (ci := 9) (k := 7) (r := 0) (by decide +kernel) rfl rfl rfl (?_ : AW _ _ _ _ 155 _ _ _ _ _ _)
    refine AW.iload_n (i := 1) (a := a1) (by decide +kernel) rfl (?_ : AW _ _ _ _ 156 _ _ _ _ _ _)
    refine AW.iconst (n := 2) (by decide +kernel) (?_ : AW _ _ _ _ 157 _ _ _ _ _ _)
    refine AW.callP (g := cf_Model_ladderAt) (av := [zI a1, zI 2]) (idx := 141) (n := 2) (st := [zR (some 5), zR (some 0), zJ x10, zI 2, zR (some 22)]) (by decide +kernel) (fun l hl r hr => c_Model_ladderAt l hl a1 2 _ r hr) rfl cal_Model_ladderAt rfl (zw3 zm_X9_141 zt_yX9_ladderAt zn_X9) ⟨by decide, by decide, by decide, by decide⟩ (Nat.le_of_ble_eq_true rfl) (fun v _ => AW.kI (fun x39 => (?_ : AW _ _ _ _ 160 _ _ _ _ _ _)) v)
    refine AW.lald (r := 5) (by decide +kernel) rfl (fun x40 => (?_ : AW _ _ _ _ 161 _ _ _ _ _ _))
    refine AW.aload_n (i := 0) (a := 0) (by decide +kernel) rfl (?_ : AW _ _ _ _ 162 _ _ _ _ _ _)
    refine AW.getR (idx := 22) (ci := 9) (k := 7) (r := 0) (by decide +kernel) rfl rfl rfl (?_ : AW _ _ _ _ 165 _ _ _ _ _ _)
    refine AW.iload_n (i := 1) (a := a1) (by decide +kernel) rfl (?_ : AW _ _ _ _ 166 _ _ _ _ _ _)
    refine AW.iconst (n := 3) (by decide +kernel) (?_ : AW _ _ _ _ 167 _ _ _ _ _ _)
    refine AW.callP (g := cf_Model_ladderAt) (av := [zI a1, zI 3]) (idx := 141) (n := 2) (st := [zR (some 5), zJ x40, zR (some 0), zJ x10, zI 2, zR (some 22)]) (by decide +kernel) (fun l hl r hr => c_Model_ladderAt l hl a1 3 _ r hr) rfl cal_Model_ladderAt rfl (zw3 zm_X9_141 zt_yX9_ladderAt zn_X9) ⟨by decide, by decide, by decide, by decide⟩ (Nat.le_of_ble_eq_true rfl) (fun v _ => AW.kI (fun x42 => (?_ : AW _ _ _ _ 170 _ _ _ _ _ _)) v)
    refine AW.lald (r := 5) (by decide +kernel) rfl (fun x43 => (?_ : AW _ _ _ _ 171 _ _ _ _ _ _))
    refine AW.callVw (g := cf_Model_caught) (av := [zJ x40, zJ x43]) (b0 := 0) (ci := 9) (idx := 156) (n := 2) (st := [zJ x10, zI 2, zR (some 22)]) (by decide +kernel) (fun l hl r hr => c_Model_caught l hl x40 x43 _ r hr) S_Model_wf rfl cal_Model_caught rfl (zw4 zm_X9_156 zi_yX9_caught zs_yX9_caught zn_X9) rfl rfl ⟨by decide, by decide, by decide, by decide⟩ (Nat.le_of_ble_eq_true rfl) (Or.inl rfl) (fun v μ44 => AW.kJ (fun x45 => (?_ : AW _ _ _ _ 174 _ _ _ _ _ _)) v)
    refine AW.callP (g := cf_Model_lesser) (av := [zJ x10, zJ x45]) (idx := 144) (n := 2) (st := [zI 2, zR (some 22)]) (by decide +kernel) (fun l hl r hr => c_Model_lesser l hl x10 x45 _ r hr) rfl cal_Model_lesser rfl (zw3 zm_X9_144 zt_yX9_lesser zn_X9) ⟨by decide, by decide, by decide, by decide⟩ (Nat.le_of_ble_eq_true rfl) (fun v _ => AW.kJ (fun x47 => (?_ : AW _ _ _ _ 177 _ _ _ _ _ _)) v)
    refine AW.goto (off := 4) (tgt := 181) (by decide +kernel) (by decide) ?_
    refine AW.sub (L' := [(0, zR (some 0)), (1, zI a1), (3, zJ a3), (5, zJ x10)]) [1, 2, 3, 0] rfl ?_
    exact j_Model_fills_181 a1 a3 x10 x47 2 μ44
def J_Model_fills_45 (a1 : Int) (a2 : Int) (a3 : Int) (u5 : Int) (μ : ZMem) : Option ZRes := zRd μ 22 4 0 (fun x4 => zLet ((u5 - x4)) (fun x5 => zC (F_Model_takes a1 1 x5 μ) (zkJ (fun x7 μ6 => zWr μ6 22 4 1 x7 (fun μ8 => if w32 a2 = 0 then (J_Model_fills_98 a1 a3 x5 μ8) else (zRd μ8 22 4 1 (fun x48 => zRd μ8 22 4 1 (fun x49 => zC (F_Model_takes 1 1 (x5 - x49) μ8) (zkJ (fun x51 μ50 => zWr μ50 22 4 1 (x48 + x51) (fun μ52 => J_Model_fills_98 a1 a3 x5 μ52))) zX0)))))) zX0))
set_option maxRecDepth 100000 in
theorem j_Model_fills_45 (a1 : Int) (a2 : Int) (a3 : Int) (u5 : Int) (μ : ZMem) : AW cf_Model_fills S_Model.length S_Model S_Model 45 [(0, zR (some 0)), (1, zI a1), (2, zI a2), (3, zJ a3), (5, zJ u5)] [] μ 0 0 (J_Model_fills_45 a1 a2 a3 u5 μ) := by
  unfold J_Model_fills_45
  refine AW.lload (i := 5) (a := u5) (by decide +kernel) rfl (?_ : AW _ _ _ _ 47 _ _ _ _ _ _)
  refine AW.aload_n (i := 0) (a := 0) (by decide +kernel) rfl (?_ : AW _ _ _ _ 48 _ _ _ _ _ _)
  refine AW.getR (idx := 81) (ci := 9) (k := 34) (r := 0) (by decide +kernel) rfl rfl rfl (?_ : AW _ _ _ _ 51 _ _ _ _ _ _)
  refine AW.iconst (n := 0) (by decide +kernel) (?_ : AW _ _ _ _ 52 _ _ _ _ _ _)
  refine AW.lald (r := 22) (by decide +kernel) rfl (fun x4 => (?_ : AW _ _ _ _ 53 _ _ _ _ _ _))
  refine AW.lsub (by decide +kernel) (?_ : AW _ _ _ _ 54 _ _ _ _ _ _)
  refine AW.lstoreL (i := 5) (L' := fun x5 => [(5, zJ x5), (0, zR (some 0)), (1, zI a1), (2, zI a2), (3, zJ a3)]) (by decide +kernel) (by decide) (fun _ => rfl) (fun x5 => (?_ : AW _ _ _ _ 56 _ _ _ _ _ _))
  refine AW.aload_n (i := 0) (a := 0) (by decide +kernel) rfl (?_ : AW _ _ _ _ 57 _ _ _ _ _ _)
  refine AW.getR (idx := 81) (ci := 9) (k := 34) (r := 0) (by decide +kernel) rfl rfl rfl (?_ : AW _ _ _ _ 60 _ _ _ _ _ _)
  refine AW.iconst (n := 1) (by decide +kernel) (?_ : AW _ _ _ _ 61 _ _ _ _ _ _)
  refine AW.aload_n (i := 0) (a := 0) (by decide +kernel) rfl (?_ : AW _ _ _ _ 62 _ _ _ _ _ _)
  refine AW.iload_n (i := 1) (a := a1) (by decide +kernel) rfl (?_ : AW _ _ _ _ 63 _ _ _ _ _ _)
  refine AW.iconst (n := 1) (by decide +kernel) (?_ : AW _ _ _ _ 64 _ _ _ _ _ _)
  refine AW.lload (i := 5) (a := x5) (by decide +kernel) rfl (?_ : AW _ _ _ _ 66 _ _ _ _ _ _)
  refine AW.callVw (g := cf_Model_takes) (av := [zI a1, zI 1, zJ x5]) (b0 := 0) (ci := 9) (idx := 152) (n := 3) (st := [zI 1, zR (some 22)]) (by decide +kernel) (fun l hl r hr => c_Model_takes l hl a1 1 x5 _ r hr) S_Model_wf rfl cal_Model_takes rfl (zw4 zm_X9_152 zi_yX9_takes zs_yX9_takes zn_X9) rfl rfl ⟨by decide, by decide, by decide, by decide⟩ (Nat.le_of_ble_eq_true rfl) (Or.inl rfl) (fun v μ6 => AW.kJ (fun x7 => (?_ : AW _ _ _ _ 69 _ _ _ _ _ _)) v)
  refine AW.lastL (r := 22) (by decide +kernel) rfl (fun μ8 => (?_ : AW _ _ _ _ 70 _ _ _ _ _ _))
  refine AW.iload_n (i := 2) (a := a2) (by decide +kernel) rfl (?_ : AW _ _ _ _ 71 _ _ _ _ _ _)
  refine AW.if_eq (off := 27) (tgt := 98) (by decide +kernel) (by decide) (fun _ => ?_) (fun _ => ?_)
  · refine AW.sub (L' := [(0, zR (some 0)), (1, zI a1), (3, zJ a3), (5, zJ x5)]) [1, 2, 4, 0] rfl ?_
    exact j_Model_fills_98 a1 a3 x5 μ8
  · refine AW.aload_n (i := 0) (a := 0) (by decide +kernel) rfl (?_ : AW _ _ _ _ 75 _ _ _ _ _ _)
    refine AW.getR (idx := 81) (ci := 9) (k := 34) (r := 0) (by decide +kernel) rfl rfl rfl (?_ : AW _ _ _ _ 78 _ _ _ _ _ _)
    refine AW.iconst (n := 1) (by decide +kernel) (?_ : AW _ _ _ _ 79 _ _ _ _ _ _)
    refine AW.dup2 (by decide +kernel) rfl rfl (?_ : AW _ _ _ _ 80 _ _ _ _ _ _)
    refine AW.lald (r := 22) (by decide +kernel) rfl (fun x48 => (?_ : AW _ _ _ _ 81 _ _ _ _ _ _))
    refine AW.aload_n (i := 0) (a := 0) (by decide +kernel) rfl (?_ : AW _ _ _ _ 82 _ _ _ _ _ _)
    refine AW.iconst (n := 1) (by decide +kernel) (?_ : AW _ _ _ _ 83 _ _ _ _ _ _)
    refine AW.iconst (n := 1) (by decide +kernel) (?_ : AW _ _ _ _ 84 _ _ _ _ _ _)
    refine AW.lload (i := 5) (a := x5) (by decide +kernel) rfl (?_ : AW _ _ _ _ 86 _ _ _ _ _ _)
    refine AW.aload_n (i := 0) (a := 0) (by decide +kernel) rfl (?_ : AW _ _ _ _ 87 _ _ _ _ _ _)
    refine AW.getR (idx := 81) (ci := 9) (k := 34) (r := 0) (by decide +kernel) rfl rfl rfl (?_ : AW _ _ _ _ 90 _ _ _ _ _ _)
    refine AW.iconst (n := 1) (by decide +kernel) (?_ : AW _ _ _ _ 91 _ _ _ _ _ _)
    refine AW.lald (r := 22) (by decide +kernel) rfl (fun x49 => (?_ : AW _ _ _ _ 92 _ _ _ _ _ _))
    refine AW.lsub (by decide +kernel) (?_ : AW _ _ _ _ 93 _ _ _ _ _ _)
    refine AW.callVw (g := cf_Model_takes) (av := [zI 1, zI 1, zJ (x5 - x49)]) (b0 := 0) (ci := 9) (idx := 152) (n := 3) (st := [zJ x48, zI 1, zR (some 22)]) (by decide +kernel) (fun l hl r hr => c_Model_takes l hl 1 1 (x5 - x49) _ r hr) S_Model_wf rfl cal_Model_takes rfl (zw4 zm_X9_152 zi_yX9_takes zs_yX9_takes zn_X9) rfl rfl ⟨by decide, by decide, by decide, by decide⟩ (Nat.le_of_ble_eq_true rfl) (Or.inl rfl) (fun v μ50 => AW.kJ (fun x51 => (?_ : AW _ _ _ _ 96 _ _ _ _ _ _)) v)
    refine AW.ladd (by decide +kernel) (?_ : AW _ _ _ _ 97 _ _ _ _ _ _)
    refine AW.lastL (r := 22) (by decide +kernel) rfl (fun μ52 => (?_ : AW _ _ _ _ 98 _ _ _ _ _ _))
    refine AW.sub (L' := [(0, zR (some 0)), (1, zI a1), (3, zJ a3), (5, zJ x5)]) [1, 2, 4, 0] rfl ?_
    exact j_Model_fills_98 a1 a3 x5 μ52
def F_Model_fills (a1 : Int) (a2 : Int) (a3 : Int) (μ : ZMem) : Option ZRes := zC (F_Model_takes a1 0 a3 μ) (zkJ (fun x2 μ1 => zWr μ1 22 4 0 x2 (fun μ3 => if w32 a2 = 0 then (J_Model_fills_45 a1 a2 a3 a3 μ3) else (zRd μ3 22 4 0 (fun x53 => zRd μ3 22 4 0 (fun x54 => zC (F_Model_takes 1 0 (a3 - x54) μ3) (zkJ (fun x56 μ55 => zWr μ55 22 4 0 (x53 + x56) (fun μ57 => J_Model_fills_45 a1 a2 a3 a3 μ57))) zX0)))))) zX0
set_option maxRecDepth 100000 in
theorem w_Model_fills (a1 : Int) (a2 : Int) (a3 : Int) (μ : ZMem) : AW cf_Model_fills S_Model.length S_Model S_Model 0 [(0, zR (some 0)), (1, zI a1), (2, zI a2), (3, zJ a3)] [] μ 0 0 (F_Model_fills a1 a2 a3 μ) := by
  unfold F_Model_fills
  refine AW.lload_n (i := 3) (a := a3) (by decide +kernel) rfl (?_ : AW _ _ _ _ 1 _ _ _ _ _ _)
  refine AW.lstore' (i := 5) (L' := [(5, zJ a3), (0, zR (some 0)), (1, zI a1), (2, zI a2), (3, zJ a3)]) (by decide +kernel) (by decide) rfl (?_ : AW _ _ _ _ 3 _ _ _ _ _ _)
  refine AW.aload_n (i := 0) (a := 0) (by decide +kernel) rfl (?_ : AW _ _ _ _ 4 _ _ _ _ _ _)
  refine AW.getR (idx := 81) (ci := 9) (k := 34) (r := 0) (by decide +kernel) rfl rfl rfl (?_ : AW _ _ _ _ 7 _ _ _ _ _ _)
  refine AW.iconst (n := 0) (by decide +kernel) (?_ : AW _ _ _ _ 8 _ _ _ _ _ _)
  refine AW.aload_n (i := 0) (a := 0) (by decide +kernel) rfl (?_ : AW _ _ _ _ 9 _ _ _ _ _ _)
  refine AW.iload_n (i := 1) (a := a1) (by decide +kernel) rfl (?_ : AW _ _ _ _ 10 _ _ _ _ _ _)
  refine AW.iconst (n := 0) (by decide +kernel) (?_ : AW _ _ _ _ 11 _ _ _ _ _ _)
  refine AW.lload (i := 5) (a := a3) (by decide +kernel) rfl (?_ : AW _ _ _ _ 13 _ _ _ _ _ _)
  refine AW.callVw (g := cf_Model_takes) (av := [zI a1, zI 0, zJ a3]) (b0 := 0) (ci := 9) (idx := 152) (n := 3) (st := [zI 0, zR (some 22)]) (by decide +kernel) (fun l hl r hr => c_Model_takes l hl a1 0 a3 _ r hr) S_Model_wf rfl cal_Model_takes rfl (zw4 zm_X9_152 zi_yX9_takes zs_yX9_takes zn_X9) rfl rfl ⟨by decide, by decide, by decide, by decide⟩ (Nat.le_of_ble_eq_true rfl) (Or.inl rfl) (fun v μ1 => AW.kJ (fun x2 => (?_ : AW _ _ _ _ 16 _ _ _ _ _ _)) v)
  refine AW.lastL (r := 22) (by decide +kernel) rfl (fun μ3 => (?_ : AW _ _ _ _ 17 _ _ _ _ _ _))
  refine AW.iload_n (i := 2) (a := a2) (by decide +kernel) rfl (?_ : AW _ _ _ _ 18 _ _ _ _ _ _)
  refine AW.if_eq (off := 27) (tgt := 45) (by decide +kernel) (by decide) (fun _ => ?_) (fun _ => ?_)
  · refine AW.sub (L' := [(0, zR (some 0)), (1, zI a1), (2, zI a2), (3, zJ a3), (5, zJ a3)]) [1, 2, 3, 4, 0] rfl ?_
    exact j_Model_fills_45 a1 a2 a3 a3 μ3
  · refine AW.aload_n (i := 0) (a := 0) (by decide +kernel) rfl (?_ : AW _ _ _ _ 22 _ _ _ _ _ _)
    refine AW.getR (idx := 81) (ci := 9) (k := 34) (r := 0) (by decide +kernel) rfl rfl rfl (?_ : AW _ _ _ _ 25 _ _ _ _ _ _)
    refine AW.iconst (n := 0) (by decide +kernel) (?_ : AW _ _ _ _ 26 _ _ _ _ _ _)
    refine AW.dup2 (by decide +kernel) rfl rfl (?_ : AW _ _ _ _ 27 _ _ _ _ _ _)
    refine AW.lald (r := 22) (by decide +kernel) rfl (fun x53 => (?_ : AW _ _ _ _ 28 _ _ _ _ _ _))
    refine AW.aload_n (i := 0) (a := 0) (by decide +kernel) rfl (?_ : AW _ _ _ _ 29 _ _ _ _ _ _)
    refine AW.iconst (n := 1) (by decide +kernel) (?_ : AW _ _ _ _ 30 _ _ _ _ _ _)
    refine AW.iconst (n := 0) (by decide +kernel) (?_ : AW _ _ _ _ 31 _ _ _ _ _ _)
    refine AW.lload (i := 5) (a := a3) (by decide +kernel) rfl (?_ : AW _ _ _ _ 33 _ _ _ _ _ _)
    refine AW.aload_n (i := 0) (a := 0) (by decide +kernel) rfl (?_ : AW _ _ _ _ 34 _ _ _ _ _ _)
    refine AW.getR (idx := 81) (ci := 9) (k := 34) (r := 0) (by decide +kernel) rfl rfl rfl (?_ : AW _ _ _ _ 37 _ _ _ _ _ _)
    refine AW.iconst (n := 0) (by decide +kernel) (?_ : AW _ _ _ _ 38 _ _ _ _ _ _)
    refine AW.lald (r := 22) (by decide +kernel) rfl (fun x54 => (?_ : AW _ _ _ _ 39 _ _ _ _ _ _))
    refine AW.lsub (by decide +kernel) (?_ : AW _ _ _ _ 40 _ _ _ _ _ _)
    refine AW.callVw (g := cf_Model_takes) (av := [zI 1, zI 0, zJ (a3 - x54)]) (b0 := 0) (ci := 9) (idx := 152) (n := 3) (st := [zJ x53, zI 0, zR (some 22)]) (by decide +kernel) (fun l hl r hr => c_Model_takes l hl 1 0 (a3 - x54) _ r hr) S_Model_wf rfl cal_Model_takes rfl (zw4 zm_X9_152 zi_yX9_takes zs_yX9_takes zn_X9) rfl rfl ⟨by decide, by decide, by decide, by decide⟩ (Nat.le_of_ble_eq_true rfl) (Or.inl rfl) (fun v μ55 => AW.kJ (fun x56 => (?_ : AW _ _ _ _ 43 _ _ _ _ _ _)) v)
    refine AW.ladd (by decide +kernel) (?_ : AW _ _ _ _ 44 _ _ _ _ _ _)
    refine AW.lastL (r := 22) (by decide +kernel) rfl (fun μ57 => (?_ : AW _ _ _ _ 45 _ _ _ _ _ _))
    refine AW.sub (L' := [(0, zR (some 0)), (1, zI a1), (2, zI a2), (3, zJ a3), (5, zJ a3)]) [1, 2, 3, 4, 0] rfl ?_
    exact j_Model_fills_45 a1 a2 a3 a3 μ57
theorem c_Model_fills (l : Launch) (hl : l.stackTraces = false) (a1 : Int) (a2 : Int) (a3 : Int) (μ : ZMem) (r : ZRes) (h : F_Model_fills a1 a2 a3 μ = some r) : ZC l cf_Model_fills S_Model S_Model [zR (some 0), zI a1, zI a2, zJ a3] μ r := ZC.of hl (by decide +kernel) rfl rfl zft_X9_ok (Nat.le_of_ble_eq_true rfl) h (w_Model_fills a1 a2 a3 μ)
/-! WeirLedgerModel.byWeights(JI)V -/
def cf_Model_byWeights : ZCf := (yX9_byWeights, cX9_byWeights, 5, none, [], 4, 0, 0, zft_X9, none)
theorem cal_Model_byWeights : zCallee cf_Model_byWeights 2 := ⟨rfl, zc_yX9_byWeights, by decide, by decide, by decide +kernel⟩
def J_Model_byWeights_38 (R : Int → ZMem → Option ZRes) (K : ZMem → Option ZRes) (c1 : Int) (c3 : Int) (u4 : Int) (y0 : Int) (y1 : Int) (μ : ZMem) : Option ZRes := zWr μ 19 6 y1 y0 (fun μ5 => zLet (u4 + 1) (fun x6 => R x6 μ5))
set_option maxRecDepth 100000 in
theorem j_Model_byWeights_38 {R : Int → ZMem → Option ZRes} {K : ZMem → Option ZRes} (c1 : Int) (c3 : Int) (hR : ∀ (v4 : Int) (μ : ZMem), AW cf_Model_byWeights S_Model.length S_Model S_Model 3 [(0, zR (some 0)), (1, zJ c1), (3, zI c3), (4, zI v4)] [] μ 0 0 (R v4 μ)) (hK : ∀ (μ : ZMem), AW cf_Model_byWeights S_Model.length S_Model S_Model 45 [(0, zR (some 0)), (1, zJ c1)] [] μ 0 0 (K μ)) (u4 : Int) (y0 : Int) (y1 : Int) (μ : ZMem) : AW cf_Model_byWeights S_Model.length S_Model S_Model 38 [(0, zR (some 0)), (1, zJ c1), (3, zI c3), (4, zI u4)] [zJ y0, zI y1, zR (some 19)] μ 0 0 (J_Model_byWeights_38 R K c1 c3 u4 y0 y1 μ) := by
  unfold J_Model_byWeights_38
  refine AW.lastL (r := 19) (by decide +kernel) rfl (fun μ5 => (?_ : AW _ _ _ _ 39 _ _ _ _ _ _))
  refine AW.iincL (i := 4) (n := 1) (a := u4) (L' := fun x6 => [(4, zI x6), (0, zR (some 0)), (1, zJ c1), (3, zI c3)]) (by decide +kernel) rfl (by decide) (fun _ => rfl) (fun x6 => (?_ : AW _ _ _ _ 42 _ _ _ _ _ _))
  refine AW.goto (off := -39) (tgt := 3) (by decide +kernel) (by decide) ?_
  refine AW.sub (L' := [(0, zR (some 0)), (1, zJ c1), (3, zI c3), (4, zI x6)]) [1, 2, 3, 0] rfl ?_
  exact hR x6 μ5
def L_Model_byWeights_3 (c1 : Int) (c3 : Int) (K : ZMem → Option ZRes) : Nat → Int → ZMem → Option ZRes
  | 0, _, _ => none
  | n + 1, v4, μ => if w32 (μ 0 5) ≤ w32 v4 then (K  μ) else (zC (F_Model_isExcused v4 c3 μ) (zkI (fun x2 μ1 => if w32 x2 = 0 then (zC (F_Model_weightOf v4 μ1) (zkJ (fun x4 μ3 => J_Model_byWeights_38 (fun v4 μ => L_Model_byWeights_3 c1 c3 K n v4 μ) K c1 c3 v4 x4 v4 μ3)) zX0) else (J_Model_byWeights_38 (fun v4 μ => L_Model_byWeights_3 c1 c3 K n v4 μ) K c1 c3 v4 0 v4 μ1))) zX0)
set_option maxRecDepth 100000 in
theorem l_Model_byWeights_3 {c1 : Int} {c3 : Int} {K : ZMem → Option ZRes} (hK : ∀ (μ : ZMem), AW cf_Model_byWeights S_Model.length S_Model S_Model 45 [(0, zR (some 0)), (1, zJ c1)] [] μ 0 0 (K μ)) : ∀ (n : Nat) (v4 : Int) (μ : ZMem), AW cf_Model_byWeights S_Model.length S_Model S_Model 3 [(0, zR (some 0)), (1, zJ c1), (3, zI c3), (4, zI v4)] [] μ 0 0 (L_Model_byWeights_3 c1 c3 K n v4 μ) := by
  intro n
  induction n with
  | zero => intro v4 μ; exact AW.noth
  | succ n ih =>
    intro v4 μ
    rw [L_Model_byWeights_3]
    refine AW.iload (i := 4) (a := v4) (by decide +kernel) rfl (?_ : AW _ _ _ _ 5 _ _ _ _ _ _)
    refine AW.aload_n (i := 0) (a := 0) (by decide +kernel) rfl (?_ : AW _ _ _ _ 6 _ _ _ _ _ _)
    refine AW.getI (idx := 96) (ci := 9) (k := 5) (r := 0) (by decide +kernel) rfl rfl rfl (?_ : AW _ _ _ _ 9 _ _ _ _ _ _)
    refine AW.icmp_ge (off := 36) (tgt := 45) (by decide +kernel) (by decide) (fun _ => ?_) (fun _ => ?_)
    · refine AW.sub (L' := [(0, zR (some 0)), (1, zJ c1)]) [0, 1] rfl ?_
      exact hK  μ
    · refine AW.aload_n (i := 0) (a := 0) (by decide +kernel) rfl (?_ : AW _ _ _ _ 13 _ _ _ _ _ _)
      refine AW.getR (idx := 72) (ci := 9) (k := 31) (r := 0) (by decide +kernel) rfl rfl rfl (?_ : AW _ _ _ _ 16 _ _ _ _ _ _)
      refine AW.iload (i := 4) (a := v4) (by decide +kernel) rfl (?_ : AW _ _ _ _ 18 _ _ _ _ _ _)
      refine AW.aload_n (i := 0) (a := 0) (by decide +kernel) rfl (?_ : AW _ _ _ _ 19 _ _ _ _ _ _)
      refine AW.iload (i := 4) (a := v4) (by decide +kernel) rfl (?_ : AW _ _ _ _ 21 _ _ _ _ _ _)
      refine AW.iload_n (i := 3) (a := c3) (by decide +kernel) rfl (?_ : AW _ _ _ _ 22 _ _ _ _ _ _)
      refine AW.callVw (g := cf_Model_isExcused) (av := [zI v4, zI c3]) (b0 := 0) (ci := 9) (idx := 106) (n := 2) (st := [zI v4, zR (some 19)]) (by decide +kernel) (fun l hl r hr => c_Model_isExcused l hl v4 c3 _ r hr) S_Model_wf rfl cal_Model_isExcused rfl (zw4 zm_X9_106 zi_yX9_isExcused zs_yX9_isExcused zn_X9) rfl rfl ⟨by decide, by decide, by decide, by decide⟩ (Nat.le_of_ble_eq_true rfl) (Or.inl rfl) (fun v μ1 => AW.kI (fun x2 => (?_ : AW _ _ _ _ 25 _ _ _ _ _ _)) v)
      refine AW.if_eq (off := 7) (tgt := 32) (by decide +kernel) (by decide) (fun _ => ?_) (fun _ => ?_)
      · refine AW.aload_n (i := 0) (a := 0) (by decide +kernel) rfl (?_ : AW _ _ _ _ 33 _ _ _ _ _ _)
        refine AW.iload (i := 4) (a := v4) (by decide +kernel) rfl (?_ : AW _ _ _ _ 35 _ _ _ _ _ _)
        refine AW.callVw (g := cf_Model_weightOf) (av := [zI v4]) (b0 := 0) (ci := 9) (idx := 129) (n := 1) (st := [zI v4, zR (some 19)]) (by decide +kernel) (fun l hl r hr => c_Model_weightOf l hl v4 _ r hr) S_Model_wf rfl cal_Model_weightOf rfl (zw4 zm_X9_129 zi_yX9_weightOf zs_yX9_weightOf zn_X9) rfl rfl ⟨by decide, by decide, by decide, by decide⟩ (Nat.le_of_ble_eq_true rfl) (Or.inl rfl) (fun v μ3 => AW.kJ (fun x4 => (?_ : AW _ _ _ _ 38 _ _ _ _ _ _)) v)
        exact j_Model_byWeights_38 c1 c3 ih hK v4 x4 v4 μ3
      · refine AW.lconst0 (by decide +kernel) (?_ : AW _ _ _ _ 29 _ _ _ _ _ _)
        refine AW.goto (off := 9) (tgt := 38) (by decide +kernel) (by decide) ?_
        exact j_Model_byWeights_38 c1 c3 ih hK v4 0 v4 μ1
def F_Model_byWeights (a1 : Int) (a2 : Int) (μ : ZMem) : Option ZRes := L_Model_byWeights_3 a1 a2 (fun μ7 => zC (F_Model_shares a1 μ7) (zkV (fun μ8 => some (.inr none, μ8))) zX0) zN 0 μ
set_option maxRecDepth 100000 in
theorem w_Model_byWeights (a1 : Int) (a2 : Int) (μ : ZMem) : AW cf_Model_byWeights S_Model.length S_Model S_Model 0 [(0, zR (some 0)), (1, zJ a1), (3, zI a2)] [] μ 0 0 (F_Model_byWeights a1 a2 μ) := by
  unfold F_Model_byWeights
  refine AW.iconst (n := 0) (by decide +kernel) (?_ : AW _ _ _ _ 1 _ _ _ _ _ _)
  refine AW.istore' (i := 4) (L' := [(4, zI 0), (0, zR (some 0)), (1, zJ a1), (3, zI a2)]) (by decide +kernel) (by decide) rfl (?_ : AW _ _ _ _ 3 _ _ _ _ _ _)
  refine AW.sub (L' := [(0, zR (some 0)), (1, zJ a1), (3, zI a2), (4, zI 0)]) [1, 2, 3, 0] rfl ?_
  refine l_Model_byWeights_3 (fun μ7 => ?_) zN _ _
  refine AW.aload_n (i := 0) (a := 0) (by decide +kernel) rfl (?_ : AW _ _ _ _ 46 _ _ _ _ _ _)
  refine AW.lload_n (i := 1) (a := a1) (by decide +kernel) rfl (?_ : AW _ _ _ _ 47 _ _ _ _ _ _)
  refine AW.callVw (g := cf_Model_shares) (av := [zJ a1]) (b0 := 0) (ci := 9) (idx := 133) (n := 1) (st := []) (by decide +kernel) (fun l hl r hr => c_Model_shares l hl a1 _ r hr) S_Model_wf rfl cal_Model_shares rfl (zw4 zm_X9_133 zi_yX9_shares zs_yX9_shares zn_X9) rfl rfl ⟨by decide, by decide, by decide, by decide⟩ (Nat.le_of_ble_eq_true rfl) (Or.inl rfl) (fun v μ8 => AW.kV (?_ : AW _ _ _ _ 50 _ _ _ _ _ _) v)
  exact AW.retv (by decide +kernel) rfl (by decide) (by decide)
theorem c_Model_byWeights (l : Launch) (hl : l.stackTraces = false) (a1 : Int) (a2 : Int) (μ : ZMem) (r : ZRes) (h : F_Model_byWeights a1 a2 μ = some r) : ZC l cf_Model_byWeights S_Model S_Model [zR (some 0), zJ a1, zI a2] μ r := ZC.of hl (by decide +kernel) rfl rfl zft_X9_ok (Nat.le_of_ble_eq_true rfl) h (w_Model_byWeights a1 a2 μ)
/-! WeirLedgerModel.getsAll(JI)V -/
def cf_Model_getsAll : ZCf := (yX9_getsAll, cX9_getsAll, 5, none, [], 5, 0, 0, zft_X9, none)
theorem cal_Model_getsAll : zCallee cf_Model_getsAll 2 := ⟨rfl, zc_yX9_getsAll, by decide, by decide, by decide +kernel⟩
def L_Model_getsAll_9 (K : ZMem → Option ZRes) : Nat → Int → ZMem → Option ZRes
  | 0, _, _ => none
  | n + 1, v4, μ => if w32 (μ 0 5) ≤ w32 v4 then (K  μ) else (zC (F_Model_placeOf v4 3 μ) (zkI (fun x4 _ => zRd μ 5 92 x4 (fun x5 => zRd μ 20 6 v4 (fun x6 => zWr μ 5 92 x4 (x5 + x6) (fun μ7 => zRd μ7 5 92 90 (fun x8 => zRd μ7 7 1206 ((201 * v4) + x8) (fun x9 => zRd μ7 20 6 v4 (fun x10 => zWr μ7 7 1206 ((201 * v4) + x8) (x9 + x10) (fun μ11 => zLet (v4 + 1) (fun x12 => L_Model_getsAll_9 K n x12 μ11)))))))))) zX0)
set_option maxRecDepth 100000 in
theorem l_Model_getsAll_9 {K : ZMem → Option ZRes} (hK : ∀ (μ : ZMem), AW cf_Model_getsAll S_Model.length S_Model S_Model 75 [] [] μ 0 0 (K μ)) : ∀ (n : Nat) (v4 : Int) (μ : ZMem), AW cf_Model_getsAll S_Model.length S_Model S_Model 9 [(0, zR (some 0)), (4, zI v4)] [] μ 0 0 (L_Model_getsAll_9 K n v4 μ) := by
  intro n
  induction n with
  | zero => intro v4 μ; exact AW.noth
  | succ n ih =>
    intro v4 μ
    rw [L_Model_getsAll_9]
    refine AW.iload (i := 4) (a := v4) (by decide +kernel) rfl (?_ : AW _ _ _ _ 11 _ _ _ _ _ _)
    refine AW.aload_n (i := 0) (a := 0) (by decide +kernel) rfl (?_ : AW _ _ _ _ 12 _ _ _ _ _ _)
    refine AW.getI (idx := 96) (ci := 9) (k := 5) (r := 0) (by decide +kernel) rfl rfl rfl (?_ : AW _ _ _ _ 15 _ _ _ _ _ _)
    refine AW.icmp_ge (off := 60) (tgt := 75) (by decide +kernel) (by decide) (fun _ => ?_) (fun _ => ?_)
    · refine AW.sub (L' := []) [] rfl ?_
      exact hK  μ
    · refine AW.aload_n (i := 0) (a := 0) (by decide +kernel) rfl (?_ : AW _ _ _ _ 19 _ _ _ _ _ _)
      refine AW.getR (idx := 22) (ci := 9) (k := 7) (r := 0) (by decide +kernel) rfl rfl rfl (?_ : AW _ _ _ _ 22 _ _ _ _ _ _)
      refine AW.iload (i := 4) (a := v4) (by decide +kernel) rfl (?_ : AW _ _ _ _ 24 _ _ _ _ _ _)
      refine AW.iconst (n := 3) (by decide +kernel) (?_ : AW _ _ _ _ 25 _ _ _ _ _ _)
      refine AW.callP (g := cf_Model_placeOf) (av := [zI v4, zI 3]) (idx := 110) (n := 2) (st := [zR (some 5)]) (by decide +kernel) (fun l hl r hr => c_Model_placeOf l hl v4 3 _ r hr) rfl cal_Model_placeOf rfl (zw3 zm_X9_110 zt_yX9_placeOf zn_X9) ⟨by decide, by decide, by decide, by decide⟩ (Nat.le_of_ble_eq_true rfl) (fun v _ => AW.kI (fun x4 => (?_ : AW _ _ _ _ 28 _ _ _ _ _ _)) v)
      refine AW.dup2 (by decide +kernel) rfl rfl (?_ : AW _ _ _ _ 29 _ _ _ _ _ _)
      refine AW.lald (r := 5) (by decide +kernel) rfl (fun x5 => (?_ : AW _ _ _ _ 30 _ _ _ _ _ _))
      refine AW.aload_n (i := 0) (a := 0) (by decide +kernel) rfl (?_ : AW _ _ _ _ 31 _ _ _ _ _ _)
      refine AW.getR (idx := 75) (ci := 9) (k := 32) (r := 0) (by decide +kernel) rfl rfl rfl (?_ : AW _ _ _ _ 34 _ _ _ _ _ _)
      refine AW.iload (i := 4) (a := v4) (by decide +kernel) rfl (?_ : AW _ _ _ _ 36 _ _ _ _ _ _)
      refine AW.lald (r := 20) (by decide +kernel) rfl (fun x6 => (?_ : AW _ _ _ _ 37 _ _ _ _ _ _))
      refine AW.ladd (by decide +kernel) (?_ : AW _ _ _ _ 38 _ _ _ _ _ _)
      refine AW.lastL (r := 5) (by decide +kernel) rfl (fun μ7 => (?_ : AW _ _ _ _ 39 _ _ _ _ _ _))
      refine AW.aload_n (i := 0) (a := 0) (by decide +kernel) rfl (?_ : AW _ _ _ _ 40 _ _ _ _ _ _)
      refine AW.getR (idx := 29) (ci := 9) (k := 9) (r := 0) (by decide +kernel) rfl rfl rfl (?_ : AW _ _ _ _ 43 _ _ _ _ _ _)
      refine AW.sipush (n := 201) (by decide +kernel) (by decide +kernel) (?_ : AW _ _ _ _ 46 _ _ _ _ _ _)
      refine AW.iload (i := 4) (a := v4) (by decide +kernel) rfl (?_ : AW _ _ _ _ 48 _ _ _ _ _ _)
      refine AW.imul (by decide +kernel) (?_ : AW _ _ _ _ 49 _ _ _ _ _ _)
      refine AW.aload_n (i := 0) (a := 0) (by decide +kernel) rfl (?_ : AW _ _ _ _ 50 _ _ _ _ _ _)
      refine AW.getR (idx := 22) (ci := 9) (k := 7) (r := 0) (by decide +kernel) rfl rfl rfl (?_ : AW _ _ _ _ 53 _ _ _ _ _ _)
      refine AW.bipush (n := 90) (by decide +kernel) (by decide +kernel) (?_ : AW _ _ _ _ 55 _ _ _ _ _ _)
      refine AW.lald (r := 5) (by decide +kernel) rfl (fun x8 => (?_ : AW _ _ _ _ 56 _ _ _ _ _ _))
      refine AW.l2i (by decide +kernel) (?_ : AW _ _ _ _ 57 _ _ _ _ _ _)
      refine AW.iadd (by decide +kernel) (?_ : AW _ _ _ _ 58 _ _ _ _ _ _)
      refine AW.dup2 (by decide +kernel) rfl rfl (?_ : AW _ _ _ _ 59 _ _ _ _ _ _)
      refine AW.lald (r := 7) (by decide +kernel) rfl (fun x9 => (?_ : AW _ _ _ _ 60 _ _ _ _ _ _))
      refine AW.aload_n (i := 0) (a := 0) (by decide +kernel) rfl (?_ : AW _ _ _ _ 61 _ _ _ _ _ _)
      refine AW.getR (idx := 75) (ci := 9) (k := 32) (r := 0) (by decide +kernel) rfl rfl rfl (?_ : AW _ _ _ _ 64 _ _ _ _ _ _)
      refine AW.iload (i := 4) (a := v4) (by decide +kernel) rfl (?_ : AW _ _ _ _ 66 _ _ _ _ _ _)
      refine AW.lald (r := 20) (by decide +kernel) rfl (fun x10 => (?_ : AW _ _ _ _ 67 _ _ _ _ _ _))
      refine AW.ladd (by decide +kernel) (?_ : AW _ _ _ _ 68 _ _ _ _ _ _)
      refine AW.lastL (r := 7) (by decide +kernel) rfl (fun μ11 => (?_ : AW _ _ _ _ 69 _ _ _ _ _ _))
      refine AW.iincL (i := 4) (n := 1) (a := v4) (L' := fun x12 => [(4, zI x12), (0, zR (some 0))]) (by decide +kernel) rfl (by decide) (fun _ => rfl) (fun x12 => (?_ : AW _ _ _ _ 72 _ _ _ _ _ _))
      refine AW.goto (off := -63) (tgt := 9) (by decide +kernel) (by decide) ?_
      refine AW.sub (L' := [(0, zR (some 0)), (4, zI x12)]) [1, 0] rfl ?_
      exact ih x12 μ11
def F_Model_getsAll (a1 : Int) (a2 : Int) (μ : ZMem) : Option ZRes := zC (F_Model_byWeights a1 a2 μ) (zkV (fun μ1 => L_Model_getsAll_9 (fun μ13 => some (.inr none, μ13)) zN 0 μ1)) zX0
set_option maxRecDepth 100000 in
theorem w_Model_getsAll (a1 : Int) (a2 : Int) (μ : ZMem) : AW cf_Model_getsAll S_Model.length S_Model S_Model 0 [(0, zR (some 0)), (1, zJ a1), (3, zI a2)] [] μ 0 0 (F_Model_getsAll a1 a2 μ) := by
  unfold F_Model_getsAll
  refine AW.aload_n (i := 0) (a := 0) (by decide +kernel) rfl (?_ : AW _ _ _ _ 1 _ _ _ _ _ _)
  refine AW.lload_n (i := 1) (a := a1) (by decide +kernel) rfl (?_ : AW _ _ _ _ 2 _ _ _ _ _ _)
  refine AW.iload_n (i := 3) (a := a2) (by decide +kernel) rfl (?_ : AW _ _ _ _ 3 _ _ _ _ _ _)
  refine AW.callVw (g := cf_Model_byWeights) (av := [zJ a1, zI a2]) (b0 := 0) (ci := 9) (idx := 137) (n := 2) (st := []) (by decide +kernel) (fun l hl r hr => c_Model_byWeights l hl a1 a2 _ r hr) S_Model_wf rfl cal_Model_byWeights rfl (zw4 zm_X9_137 zi_yX9_byWeights zs_yX9_byWeights zn_X9) rfl rfl ⟨by decide, by decide, by decide, by decide⟩ (Nat.le_of_ble_eq_true rfl) (Or.inl rfl) (fun v μ1 => AW.kV (?_ : AW _ _ _ _ 6 _ _ _ _ _ _) v)
  refine AW.iconst (n := 0) (by decide +kernel) (?_ : AW _ _ _ _ 7 _ _ _ _ _ _)
  refine AW.istore' (i := 4) (L' := [(4, zI 0), (0, zR (some 0)), (1, zJ a1), (3, zI a2)]) (by decide +kernel) (by decide) rfl (?_ : AW _ _ _ _ 9 _ _ _ _ _ _)
  refine AW.sub (L' := [(0, zR (some 0)), (4, zI 0)]) [1, 0] rfl ?_
  refine l_Model_getsAll_9 (fun μ13 => ?_) zN _ _
  exact AW.retv (by decide +kernel) rfl (by decide) (by decide)
theorem c_Model_getsAll (l : Launch) (hl : l.stackTraces = false) (a1 : Int) (a2 : Int) (μ : ZMem) (r : ZRes) (h : F_Model_getsAll a1 a2 μ = some r) : ZC l cf_Model_getsAll S_Model S_Model [zR (some 0), zJ a1, zI a2] μ r := ZC.of hl (by decide +kernel) rfl rfl zft_X9_ok (Nat.le_of_ble_eq_true rfl) h (w_Model_getsAll a1 a2 μ)
/-! WeirLedgerModel.sells(IJZ)V -/
def cf_Model_sells : ZCf := (yX9_sells, cX9_sells, 10, none, [], 6, 0, 0, zft_X9, none)
theorem cal_Model_sells : zCallee cf_Model_sells 3 := ⟨rfl, zc_yX9_sells, by decide, by decide, by decide +kernel⟩
def L_Model_sells_151 (c1 : Int) (K : ZMem → Option ZRes) : Nat → Int → ZMem → Option ZRes
  | 0, _, _ => none
  | n + 1, v9, μ => if w32 1 < w32 v9 then (K  μ) else (zC (F_Model_ladderAt 1 v9 μ) (zkI (fun x26 _ => zRd μ 5 92 x26 (fun x27 => zC (F_Model_ladderAt (2 + c1) v9 μ) (zkI (fun x29 _ => zRd μ 5 92 x29 (fun x30 => zWr μ 5 92 x26 (x27 + x30) (fun μ31 => zC (F_Model_ladderAt (2 + c1) v9 μ31) (zkI (fun x33 _ => zWr μ31 5 92 x33 0 (fun μ34 => zLet (v9 + 1) (fun x35 => L_Model_sells_151 c1 K n x35 μ34)))) zX0)))) zX0))) zX0)
set_option maxRecDepth 100000 in
theorem l_Model_sells_151 {c1 : Int} {K : ZMem → Option ZRes} (hK : ∀ (μ : ZMem), AW cf_Model_sells S_Model.length S_Model S_Model 204 [] [] μ 0 0 (K μ)) : ∀ (n : Nat) (v9 : Int) (μ : ZMem), AW cf_Model_sells S_Model.length S_Model S_Model 151 [(0, zR (some 0)), (1, zI c1), (9, zI v9)] [] μ 0 0 (L_Model_sells_151 c1 K n v9 μ) := by
  intro n
  induction n with
  | zero => intro v9 μ; exact AW.noth
  | succ n ih =>
    intro v9 μ
    rw [L_Model_sells_151]
    refine AW.iload (i := 9) (a := v9) (by decide +kernel) rfl (?_ : AW _ _ _ _ 153 _ _ _ _ _ _)
    refine AW.iconst (n := 1) (by decide +kernel) (?_ : AW _ _ _ _ 154 _ _ _ _ _ _)
    refine AW.icmp_gt (off := 50) (tgt := 204) (by decide +kernel) (by decide) (fun _ => ?_) (fun _ => ?_)
    · refine AW.sub (L' := []) [] rfl ?_
      exact hK  μ
    · refine AW.aload_n (i := 0) (a := 0) (by decide +kernel) rfl (?_ : AW _ _ _ _ 158 _ _ _ _ _ _)
      refine AW.getR (idx := 22) (ci := 9) (k := 7) (r := 0) (by decide +kernel) rfl rfl rfl (?_ : AW _ _ _ _ 161 _ _ _ _ _ _)
      refine AW.iconst (n := 1) (by decide +kernel) (?_ : AW _ _ _ _ 162 _ _ _ _ _ _)
      refine AW.iload (i := 9) (a := v9) (by decide +kernel) rfl (?_ : AW _ _ _ _ 164 _ _ _ _ _ _)
      refine AW.callP (g := cf_Model_ladderAt) (av := [zI 1, zI v9]) (idx := 141) (n := 2) (st := [zR (some 5)]) (by decide +kernel) (fun l hl r hr => c_Model_ladderAt l hl 1 v9 _ r hr) rfl cal_Model_ladderAt rfl (zw3 zm_X9_141 zt_yX9_ladderAt zn_X9) ⟨by decide, by decide, by decide, by decide⟩ (Nat.le_of_ble_eq_true rfl) (fun v _ => AW.kI (fun x26 => (?_ : AW _ _ _ _ 167 _ _ _ _ _ _)) v)
      refine AW.dup2 (by decide +kernel) rfl rfl (?_ : AW _ _ _ _ 168 _ _ _ _ _ _)
      refine AW.lald (r := 5) (by decide +kernel) rfl (fun x27 => (?_ : AW _ _ _ _ 169 _ _ _ _ _ _))
      refine AW.aload_n (i := 0) (a := 0) (by decide +kernel) rfl (?_ : AW _ _ _ _ 170 _ _ _ _ _ _)
      refine AW.getR (idx := 22) (ci := 9) (k := 7) (r := 0) (by decide +kernel) rfl rfl rfl (?_ : AW _ _ _ _ 173 _ _ _ _ _ _)
      refine AW.iconst (n := 2) (by decide +kernel) (?_ : AW _ _ _ _ 174 _ _ _ _ _ _)
      refine AW.iload_n (i := 1) (a := c1) (by decide +kernel) rfl (?_ : AW _ _ _ _ 175 _ _ _ _ _ _)
      refine AW.iadd (by decide +kernel) (?_ : AW _ _ _ _ 176 _ _ _ _ _ _)
      refine AW.iload (i := 9) (a := v9) (by decide +kernel) rfl (?_ : AW _ _ _ _ 178 _ _ _ _ _ _)
      refine AW.callP (g := cf_Model_ladderAt) (av := [zI (2 + c1), zI v9]) (idx := 141) (n := 2) (st := [zR (some 5), zJ x27, zI x26, zR (some 5)]) (by decide +kernel) (fun l hl r hr => c_Model_ladderAt l hl (2 + c1) v9 _ r hr) rfl cal_Model_ladderAt rfl (zw3 zm_X9_141 zt_yX9_ladderAt zn_X9) ⟨by decide, by decide, by decide, by decide⟩ (Nat.le_of_ble_eq_true rfl) (fun v _ => AW.kI (fun x29 => (?_ : AW _ _ _ _ 181 _ _ _ _ _ _)) v)
      refine AW.lald (r := 5) (by decide +kernel) rfl (fun x30 => (?_ : AW _ _ _ _ 182 _ _ _ _ _ _))
      refine AW.ladd (by decide +kernel) (?_ : AW _ _ _ _ 183 _ _ _ _ _ _)
      refine AW.lastL (r := 5) (by decide +kernel) rfl (fun μ31 => (?_ : AW _ _ _ _ 184 _ _ _ _ _ _))
      refine AW.aload_n (i := 0) (a := 0) (by decide +kernel) rfl (?_ : AW _ _ _ _ 185 _ _ _ _ _ _)
      refine AW.getR (idx := 22) (ci := 9) (k := 7) (r := 0) (by decide +kernel) rfl rfl rfl (?_ : AW _ _ _ _ 188 _ _ _ _ _ _)
      refine AW.iconst (n := 2) (by decide +kernel) (?_ : AW _ _ _ _ 189 _ _ _ _ _ _)
      refine AW.iload_n (i := 1) (a := c1) (by decide +kernel) rfl (?_ : AW _ _ _ _ 190 _ _ _ _ _ _)
      refine AW.iadd (by decide +kernel) (?_ : AW _ _ _ _ 191 _ _ _ _ _ _)
      refine AW.iload (i := 9) (a := v9) (by decide +kernel) rfl (?_ : AW _ _ _ _ 193 _ _ _ _ _ _)
      refine AW.callP (g := cf_Model_ladderAt) (av := [zI (2 + c1), zI v9]) (idx := 141) (n := 2) (st := [zR (some 5)]) (by decide +kernel) (fun l hl r hr => c_Model_ladderAt l hl (2 + c1) v9 _ r hr) rfl cal_Model_ladderAt rfl (zw3 zm_X9_141 zt_yX9_ladderAt zn_X9) ⟨by decide, by decide, by decide, by decide⟩ (Nat.le_of_ble_eq_true rfl) (fun v _ => AW.kI (fun x33 => (?_ : AW _ _ _ _ 196 _ _ _ _ _ _)) v)
      refine AW.lconst0 (by decide +kernel) (?_ : AW _ _ _ _ 197 _ _ _ _ _ _)
      refine AW.lastL (r := 5) (by decide +kernel) rfl (fun μ34 => (?_ : AW _ _ _ _ 198 _ _ _ _ _ _))
      refine AW.iincL (i := 9) (n := 1) (a := v9) (L' := fun x35 => [(9, zI x35), (0, zR (some 0)), (1, zI c1)]) (by decide +kernel) rfl (by decide) (fun _ => rfl) (fun x35 => (?_ : AW _ _ _ _ 201 _ _ _ _ _ _))
      refine AW.goto (off := -50) (tgt := 151) (by decide +kernel) (by decide) ?_
      refine AW.sub (L' := [(0, zR (some 0)), (1, zI c1), (9, zI x35)]) [1, 2, 0] rfl ?_
      exact ih x35 μ34
def J_Model_sells_37 (a1 : Int) (a3 : Int) (μ : ZMem) : Option ZRes := zLet ((μ 0 35)) (fun x9 => zWr μ 9 61 (μ 0 14) (μ 0 36) (fun μ10 => zWr μ10 10 61 (μ10 0 14) x9 (fun μ11 => zC (F_Model_getsAll (μ11 0 36) a1 μ11) (zkV (fun μ12 => zRd μ12 2 7 5 (fun x14 => zLet (((w64 (x9 * (w32 x14))).tdiv (w64 100))) (fun x15 => zRd μ12 5 92 86 (fun x16 => zWr μ12 5 92 86 (x16 + x9) (fun μ17 => zRd μ17 5 92 88 (fun x18 => zWr μ17 5 92 88 (x18 + x15) (fun μ19 => zRd μ19 5 92 87 (fun x20 => zWr μ19 5 92 87 (x20 + (x9 - x15)) (fun μ21 => if w32 a3 = 0 then (some (.inr none, μ21)) else (zC (F_Model_dealAt a1 3 μ21) (zkI (fun x23 _ => zWr μ21 5 92 x23 1 (fun μ24 => L_Model_sells_151 a1 (fun μ36 => some (.inr none, μ36)) zN 0 μ24))) zX0))))))))))) zX0)))
set_option maxRecDepth 100000 in
theorem j_Model_sells_37 (a1 : Int) (a3 : Int) (μ : ZMem) : AW cf_Model_sells S_Model.length S_Model S_Model 37 [(0, zR (some 0)), (1, zI a1), (4, zI a3)] [] μ 0 0 (J_Model_sells_37 a1 a3 μ) := by
  unfold J_Model_sells_37
  refine AW.aload_n (i := 0) (a := 0) (by decide +kernel) rfl (?_ : AW _ _ _ _ 38 _ _ _ _ _ _)
  refine AW.getJ (idx := 159) (ci := 9) (k := 35) (r := 0) (by decide +kernel) rfl rfl rfl (?_ : AW _ _ _ _ 41 _ _ _ _ _ _)
  refine AW.lstoreL (i := 5) (L' := fun x9 => [(5, zJ x9), (0, zR (some 0)), (1, zI a1), (4, zI a3)]) (by decide +kernel) (by decide) (fun _ => rfl) (fun x9 => (?_ : AW _ _ _ _ 43 _ _ _ _ _ _))
  refine AW.aload_n (i := 0) (a := 0) (by decide +kernel) rfl (?_ : AW _ _ _ _ 44 _ _ _ _ _ _)
  refine AW.getR (idx := 35) (ci := 9) (k := 12) (r := 0) (by decide +kernel) rfl rfl rfl (?_ : AW _ _ _ _ 47 _ _ _ _ _ _)
  refine AW.aload_n (i := 0) (a := 0) (by decide +kernel) rfl (?_ : AW _ _ _ _ 48 _ _ _ _ _ _)
  refine AW.getI (idx := 41) (ci := 9) (k := 14) (r := 0) (by decide +kernel) rfl rfl rfl (?_ : AW _ _ _ _ 51 _ _ _ _ _ _)
  refine AW.aload_n (i := 0) (a := 0) (by decide +kernel) rfl (?_ : AW _ _ _ _ 52 _ _ _ _ _ _)
  refine AW.getJ (idx := 163) (ci := 9) (k := 36) (r := 0) (by decide +kernel) rfl rfl rfl (?_ : AW _ _ _ _ 55 _ _ _ _ _ _)
  refine AW.lastL (r := 9) (by decide +kernel) rfl (fun μ10 => (?_ : AW _ _ _ _ 56 _ _ _ _ _ _))
  refine AW.aload_n (i := 0) (a := 0) (by decide +kernel) rfl (?_ : AW _ _ _ _ 57 _ _ _ _ _ _)
  refine AW.getR (idx := 38) (ci := 9) (k := 13) (r := 0) (by decide +kernel) rfl rfl rfl (?_ : AW _ _ _ _ 60 _ _ _ _ _ _)
  refine AW.aload_n (i := 0) (a := 0) (by decide +kernel) rfl (?_ : AW _ _ _ _ 61 _ _ _ _ _ _)
  refine AW.getI (idx := 41) (ci := 9) (k := 14) (r := 0) (by decide +kernel) rfl rfl rfl (?_ : AW _ _ _ _ 64 _ _ _ _ _ _)
  refine AW.lload (i := 5) (a := x9) (by decide +kernel) rfl (?_ : AW _ _ _ _ 66 _ _ _ _ _ _)
  refine AW.lastL (r := 10) (by decide +kernel) rfl (fun μ11 => (?_ : AW _ _ _ _ 67 _ _ _ _ _ _))
  refine AW.aload_n (i := 0) (a := 0) (by decide +kernel) rfl (?_ : AW _ _ _ _ 68 _ _ _ _ _ _)
  refine AW.aload_n (i := 0) (a := 0) (by decide +kernel) rfl (?_ : AW _ _ _ _ 69 _ _ _ _ _ _)
  refine AW.getJ (idx := 163) (ci := 9) (k := 36) (r := 0) (by decide +kernel) rfl rfl rfl (?_ : AW _ _ _ _ 72 _ _ _ _ _ _)
  refine AW.iload_n (i := 1) (a := a1) (by decide +kernel) rfl (?_ : AW _ _ _ _ 73 _ _ _ _ _ _)
  refine AW.callVw (g := cf_Model_getsAll) (av := [zJ (μ11 0 36), zI a1]) (b0 := 0) (ci := 9) (idx := 177) (n := 2) (st := []) (by decide +kernel) (fun l hl r hr => c_Model_getsAll l hl (μ11 0 36) a1 _ r hr) S_Model_wf rfl cal_Model_getsAll rfl (zw4 zm_X9_177 zi_yX9_getsAll zs_yX9_getsAll zn_X9) rfl rfl ⟨by decide, by decide, by decide, by decide⟩ (Nat.le_of_ble_eq_true rfl) (Or.inl rfl) (fun v μ12 => AW.kV (?_ : AW _ _ _ _ 76 _ _ _ _ _ _) v)
  refine AW.lload (i := 5) (a := x9) (by decide +kernel) rfl (?_ : AW _ _ _ _ 78 _ _ _ _ _ _)
  refine AW.aload_n (i := 0) (a := 0) (by decide +kernel) rfl (?_ : AW _ _ _ _ 79 _ _ _ _ _ _)
  refine AW.getR (idx := 13) (ci := 9) (k := 2) (r := 0) (by decide +kernel) rfl rfl rfl (?_ : AW _ _ _ _ 82 _ _ _ _ _ _)
  refine AW.iconst (n := 5) (by decide +kernel) (?_ : AW _ _ _ _ 83 _ _ _ _ _ _)
  refine AW.iald (r := 2) (by decide +kernel) rfl (fun x14 => (?_ : AW _ _ _ _ 84 _ _ _ _ _ _))
  refine AW.i2l (by decide +kernel) (?_ : AW _ _ _ _ 85 _ _ _ _ _ _)
  refine AW.lmul (by decide +kernel) (?_ : AW _ _ _ _ 86 _ _ _ _ _ _)
  refine AW.ldc2 (idx := 150) (v := 100) (by decide +kernel) zk_X9_150 (?_ : AW _ _ _ _ 89 _ _ _ _ _ _)
  refine AW.ldiv (by decide +kernel) (by decide +kernel) (?_ : AW _ _ _ _ 90 _ _ _ _ _ _)
  refine AW.lstoreL (i := 7) (L' := fun x15 => [(7, zJ x15), (5, zJ x9), (0, zR (some 0)), (1, zI a1), (4, zI a3)]) (by decide +kernel) (by decide) (fun _ => rfl) (fun x15 => (?_ : AW _ _ _ _ 92 _ _ _ _ _ _))
  refine AW.aload_n (i := 0) (a := 0) (by decide +kernel) rfl (?_ : AW _ _ _ _ 93 _ _ _ _ _ _)
  refine AW.getR (idx := 22) (ci := 9) (k := 7) (r := 0) (by decide +kernel) rfl rfl rfl (?_ : AW _ _ _ _ 96 _ _ _ _ _ _)
  refine AW.bipush (n := 86) (by decide +kernel) (by decide +kernel) (?_ : AW _ _ _ _ 98 _ _ _ _ _ _)
  refine AW.dup2 (by decide +kernel) rfl rfl (?_ : AW _ _ _ _ 99 _ _ _ _ _ _)
  refine AW.lald (r := 5) (by decide +kernel) rfl (fun x16 => (?_ : AW _ _ _ _ 100 _ _ _ _ _ _))
  refine AW.lload (i := 5) (a := x9) (by decide +kernel) rfl (?_ : AW _ _ _ _ 102 _ _ _ _ _ _)
  refine AW.ladd (by decide +kernel) (?_ : AW _ _ _ _ 103 _ _ _ _ _ _)
  refine AW.lastL (r := 5) (by decide +kernel) rfl (fun μ17 => (?_ : AW _ _ _ _ 104 _ _ _ _ _ _))
  refine AW.aload_n (i := 0) (a := 0) (by decide +kernel) rfl (?_ : AW _ _ _ _ 105 _ _ _ _ _ _)
  refine AW.getR (idx := 22) (ci := 9) (k := 7) (r := 0) (by decide +kernel) rfl rfl rfl (?_ : AW _ _ _ _ 108 _ _ _ _ _ _)
  refine AW.bipush (n := 88) (by decide +kernel) (by decide +kernel) (?_ : AW _ _ _ _ 110 _ _ _ _ _ _)
  refine AW.dup2 (by decide +kernel) rfl rfl (?_ : AW _ _ _ _ 111 _ _ _ _ _ _)
  refine AW.lald (r := 5) (by decide +kernel) rfl (fun x18 => (?_ : AW _ _ _ _ 112 _ _ _ _ _ _))
  refine AW.lload (i := 7) (a := x15) (by decide +kernel) rfl (?_ : AW _ _ _ _ 114 _ _ _ _ _ _)
  refine AW.ladd (by decide +kernel) (?_ : AW _ _ _ _ 115 _ _ _ _ _ _)
  refine AW.lastL (r := 5) (by decide +kernel) rfl (fun μ19 => (?_ : AW _ _ _ _ 116 _ _ _ _ _ _))
  refine AW.aload_n (i := 0) (a := 0) (by decide +kernel) rfl (?_ : AW _ _ _ _ 117 _ _ _ _ _ _)
  refine AW.getR (idx := 22) (ci := 9) (k := 7) (r := 0) (by decide +kernel) rfl rfl rfl (?_ : AW _ _ _ _ 120 _ _ _ _ _ _)
  refine AW.bipush (n := 87) (by decide +kernel) (by decide +kernel) (?_ : AW _ _ _ _ 122 _ _ _ _ _ _)
  refine AW.dup2 (by decide +kernel) rfl rfl (?_ : AW _ _ _ _ 123 _ _ _ _ _ _)
  refine AW.lald (r := 5) (by decide +kernel) rfl (fun x20 => (?_ : AW _ _ _ _ 124 _ _ _ _ _ _))
  refine AW.lload (i := 5) (a := x9) (by decide +kernel) rfl (?_ : AW _ _ _ _ 126 _ _ _ _ _ _)
  refine AW.lload (i := 7) (a := x15) (by decide +kernel) rfl (?_ : AW _ _ _ _ 128 _ _ _ _ _ _)
  refine AW.lsub (by decide +kernel) (?_ : AW _ _ _ _ 129 _ _ _ _ _ _)
  refine AW.ladd (by decide +kernel) (?_ : AW _ _ _ _ 130 _ _ _ _ _ _)
  refine AW.lastL (r := 5) (by decide +kernel) rfl (fun μ21 => (?_ : AW _ _ _ _ 131 _ _ _ _ _ _))
  refine AW.iload (i := 4) (a := a3) (by decide +kernel) rfl (?_ : AW _ _ _ _ 133 _ _ _ _ _ _)
  refine AW.if_ne (off := 4) (tgt := 137) (by decide +kernel) (by decide) (fun _ => ?_) (fun _ => ?_)
  · exact AW.retv (by decide +kernel) rfl (by decide) (by decide)
  · refine AW.aload_n (i := 0) (a := 0) (by decide +kernel) rfl (?_ : AW _ _ _ _ 138 _ _ _ _ _ _)
    refine AW.getR (idx := 22) (ci := 9) (k := 7) (r := 0) (by decide +kernel) rfl rfl rfl (?_ : AW _ _ _ _ 141 _ _ _ _ _ _)
    refine AW.iload_n (i := 1) (a := a1) (by decide +kernel) rfl (?_ : AW _ _ _ _ 142 _ _ _ _ _ _)
    refine AW.iconst (n := 3) (by decide +kernel) (?_ : AW _ _ _ _ 143 _ _ _ _ _ _)
    refine AW.callP (g := cf_Model_dealAt) (av := [zI a1, zI 3]) (idx := 166) (n := 2) (st := [zR (some 5)]) (by decide +kernel) (fun l hl r hr => c_Model_dealAt l hl a1 3 _ r hr) rfl cal_Model_dealAt rfl (zw3 zm_X9_166 zt_yX9_dealAt zn_X9) ⟨by decide, by decide, by decide, by decide⟩ (Nat.le_of_ble_eq_true rfl) (fun v _ => AW.kI (fun x23 => (?_ : AW _ _ _ _ 146 _ _ _ _ _ _)) v)
    refine AW.lconst1 (by decide +kernel) (?_ : AW _ _ _ _ 147 _ _ _ _ _ _)
    refine AW.lastL (r := 5) (by decide +kernel) rfl (fun μ24 => (?_ : AW _ _ _ _ 148 _ _ _ _ _ _))
    refine AW.iconst (n := 0) (by decide +kernel) (?_ : AW _ _ _ _ 149 _ _ _ _ _ _)
    refine AW.istore' (i := 9) (L' := [(9, zI 0), (7, zJ x15), (5, zJ x9), (0, zR (some 0)), (1, zI a1), (4, zI a3)]) (by decide +kernel) (by decide) rfl (?_ : AW _ _ _ _ 151 _ _ _ _ _ _)
    refine AW.sub (L' := [(0, zR (some 0)), (1, zI a1), (9, zI 0)]) [3, 4, 0] rfl ?_
    refine l_Model_sells_151 (fun μ36 => ?_) zN _ _
    exact AW.retv (by decide +kernel) rfl (by decide) (by decide)
def F_Model_sells (a1 : Int) (a2 : Int) (a3 : Int) (μ : ZMem) : Option ZRes := zC (F_Model_dealAt a1 1 μ) (zkI (fun x2 _ => zRd μ 5 92 x2 (fun x3 => zWr μ 5 92 x2 (x3 + a2) (fun μ4 => zC (F_Model_fills 0 0 a2 μ4) (zkV (fun μ5 => zC (F_Model_isDealwise  μ5) (zkI (fun x8 μ7 => if w32 x8 = 0 then (J_Model_sells_37 a1 a3 μ7) else (zC (F_Model_fills (2 + a1) 1 a2 μ7) (zkV (fun μ37 => J_Model_sells_37 a1 a3 μ37)) zX0))) zX0)) zX0)))) zX0
set_option maxRecDepth 100000 in
theorem w_Model_sells (a1 : Int) (a2 : Int) (a3 : Int) (μ : ZMem) : AW cf_Model_sells S_Model.length S_Model S_Model 0 [(0, zR (some 0)), (1, zI a1), (2, zJ a2), (4, zI a3)] [] μ 0 0 (F_Model_sells a1 a2 a3 μ) := by
  unfold F_Model_sells
  refine AW.aload_n (i := 0) (a := 0) (by decide +kernel) rfl (?_ : AW _ _ _ _ 1 _ _ _ _ _ _)
  refine AW.getR (idx := 22) (ci := 9) (k := 7) (r := 0) (by decide +kernel) rfl rfl rfl (?_ : AW _ _ _ _ 4 _ _ _ _ _ _)
  refine AW.iload_n (i := 1) (a := a1) (by decide +kernel) rfl (?_ : AW _ _ _ _ 5 _ _ _ _ _ _)
  refine AW.iconst (n := 1) (by decide +kernel) (?_ : AW _ _ _ _ 6 _ _ _ _ _ _)
  refine AW.callP (g := cf_Model_dealAt) (av := [zI a1, zI 1]) (idx := 166) (n := 2) (st := [zR (some 5)]) (by decide +kernel) (fun l hl r hr => c_Model_dealAt l hl a1 1 _ r hr) rfl cal_Model_dealAt rfl (zw3 zm_X9_166 zt_yX9_dealAt zn_X9) ⟨by decide, by decide, by decide, by decide⟩ (Nat.le_of_ble_eq_true rfl) (fun v _ => AW.kI (fun x2 => (?_ : AW _ _ _ _ 9 _ _ _ _ _ _)) v)
  refine AW.dup2 (by decide +kernel) rfl rfl (?_ : AW _ _ _ _ 10 _ _ _ _ _ _)
  refine AW.lald (r := 5) (by decide +kernel) rfl (fun x3 => (?_ : AW _ _ _ _ 11 _ _ _ _ _ _))
  refine AW.lload_n (i := 2) (a := a2) (by decide +kernel) rfl (?_ : AW _ _ _ _ 12 _ _ _ _ _ _)
  refine AW.ladd (by decide +kernel) (?_ : AW _ _ _ _ 13 _ _ _ _ _ _)
  refine AW.lastL (r := 5) (by decide +kernel) rfl (fun μ4 => (?_ : AW _ _ _ _ 14 _ _ _ _ _ _))
  refine AW.aload_n (i := 0) (a := 0) (by decide +kernel) rfl (?_ : AW _ _ _ _ 15 _ _ _ _ _ _)
  refine AW.iconst (n := 0) (by decide +kernel) (?_ : AW _ _ _ _ 16 _ _ _ _ _ _)
  refine AW.iconst (n := 0) (by decide +kernel) (?_ : AW _ _ _ _ 17 _ _ _ _ _ _)
  refine AW.lload_n (i := 2) (a := a2) (by decide +kernel) rfl (?_ : AW _ _ _ _ 18 _ _ _ _ _ _)
  refine AW.callVw (g := cf_Model_fills) (av := [zI 0, zI 0, zJ a2]) (b0 := 0) (ci := 9) (idx := 169) (n := 3) (st := []) (by decide +kernel) (fun l hl r hr => c_Model_fills l hl 0 0 a2 _ r hr) S_Model_wf rfl cal_Model_fills rfl (zw4 zm_X9_169 zi_yX9_fills zs_yX9_fills zn_X9) rfl rfl ⟨by decide, by decide, by decide, by decide⟩ (Nat.le_of_ble_eq_true rfl) (Or.inl rfl) (fun v μ5 => AW.kV (?_ : AW _ _ _ _ 21 _ _ _ _ _ _) v)
  refine AW.aload_n (i := 0) (a := 0) (by decide +kernel) rfl (?_ : AW _ _ _ _ 22 _ _ _ _ _ _)
  refine AW.callVw (g := cf_Model_isDealwise) (av := []) (b0 := 0) (ci := 9) (idx := 173) (n := 0) (st := []) (by decide +kernel) (fun l hl r hr => c_Model_isDealwise l hl  _ r hr) S_Model_wf rfl cal_Model_isDealwise rfl (zw4 zm_X9_173 zi_yX9_isDealwise zs_yX9_isDealwise zn_X9) rfl rfl ⟨by decide, by decide, by decide, by decide⟩ (Nat.le_of_ble_eq_true rfl) (Or.inl rfl) (fun v μ7 => AW.kI (fun x8 => (?_ : AW _ _ _ _ 25 _ _ _ _ _ _)) v)
  refine AW.if_eq (off := 12) (tgt := 37) (by decide +kernel) (by decide) (fun _ => ?_) (fun _ => ?_)
  · refine AW.sub (L' := [(0, zR (some 0)), (1, zI a1), (4, zI a3)]) [0, 1, 3] rfl ?_
    exact j_Model_sells_37 a1 a3 μ7
  · refine AW.aload_n (i := 0) (a := 0) (by decide +kernel) rfl (?_ : AW _ _ _ _ 29 _ _ _ _ _ _)
    refine AW.iconst (n := 2) (by decide +kernel) (?_ : AW _ _ _ _ 30 _ _ _ _ _ _)
    refine AW.iload_n (i := 1) (a := a1) (by decide +kernel) rfl (?_ : AW _ _ _ _ 31 _ _ _ _ _ _)
    refine AW.iadd (by decide +kernel) (?_ : AW _ _ _ _ 32 _ _ _ _ _ _)
    refine AW.iconst (n := 1) (by decide +kernel) (?_ : AW _ _ _ _ 33 _ _ _ _ _ _)
    refine AW.lload_n (i := 2) (a := a2) (by decide +kernel) rfl (?_ : AW _ _ _ _ 34 _ _ _ _ _ _)
    refine AW.callVw (g := cf_Model_fills) (av := [zI (2 + a1), zI 1, zJ a2]) (b0 := 0) (ci := 9) (idx := 169) (n := 3) (st := []) (by decide +kernel) (fun l hl r hr => c_Model_fills l hl (2 + a1) 1 a2 _ r hr) S_Model_wf rfl cal_Model_fills rfl (zw4 zm_X9_169 zi_yX9_fills zs_yX9_fills zn_X9) rfl rfl ⟨by decide, by decide, by decide, by decide⟩ (Nat.le_of_ble_eq_true rfl) (Or.inl rfl) (fun v μ37 => AW.kV (?_ : AW _ _ _ _ 37 _ _ _ _ _ _) v)
    refine AW.sub (L' := [(0, zR (some 0)), (1, zI a1), (4, zI a3)]) [0, 1, 3] rfl ?_
    exact j_Model_sells_37 a1 a3 μ37
theorem c_Model_sells (l : Launch) (hl : l.stackTraces = false) (a1 : Int) (a2 : Int) (a3 : Int) (μ : ZMem) (r : ZRes) (h : F_Model_sells a1 a2 a3 μ = some r) : ZC l cf_Model_sells S_Model S_Model [zR (some 0), zI a1, zJ a2, zI a3] μ r := ZC.of hl (by decide +kernel) rfl rfl zft_X9_ok (Nat.le_of_ble_eq_true rfl) h (w_Model_sells a1 a2 a3 μ)
/-! WeirLedgerModel.quarterGoes()V -/
def cf_Model_quarterGoes : ZCf := (yX9_quarterGoes, cX9_quarterGoes, 5, none, [], 4, 0, 0, zft_X9, none)
theorem cal_Model_quarterGoes : zCallee cf_Model_quarterGoes 0 := ⟨rfl, zc_yX9_quarterGoes, by decide, by decide, by decide +kernel⟩
def L_Model_quarterGoes_2 (K : ZMem → Option ZRes) : Nat → Int → ZMem → Option ZRes
  | 0, _, _ => none
  | n + 1, v1, μ => if w32 (2 + (μ 0 6)) ≤ w32 v1 then (K  μ) else (zC (F_Model_ladderAt v1 0 μ) (zkI (fun x2 _ => zRd μ 5 92 x2 (fun x3 => zC (F_Model_ladderAt v1 1 μ) (zkI (fun x5 _ => zRd μ 5 92 x5 (fun x6 => zRd μ 2 7 0 (fun x7 => zLet (((w64 ((x3 + x6) * (w32 x7))).tdiv (w64 10000))) (fun x8 => zC (F_Model_ladderAt v1 1 μ) (zkI (fun x10 _ => zC (F_Model_ladderAt v1 1 μ) (zkI (fun x12 _ => zRd μ 5 92 x12 (fun x13 => zC (F_Model_lesser 1000000000 (x13 + x8) μ) (zkJ (fun x15 _ => zWr μ 5 92 x10 x15 (fun μ16 => zLet (v1 + 1) (fun x17 => L_Model_quarterGoes_2 K n x17 μ16)))) zX0))) zX0)) zX0))))) zX0))) zX0)
set_option maxRecDepth 100000 in
theorem l_Model_quarterGoes_2 {K : ZMem → Option ZRes} (hK : ∀ (μ : ZMem), AW cf_Model_quarterGoes S_Model.length S_Model S_Model 80 [(0, zR (some 0))] [] μ 0 0 (K μ)) : ∀ (n : Nat) (v1 : Int) (μ : ZMem), AW cf_Model_quarterGoes S_Model.length S_Model S_Model 2 [(0, zR (some 0)), (1, zI v1)] [] μ 0 0 (L_Model_quarterGoes_2 K n v1 μ) := by
  intro n
  induction n with
  | zero => intro v1 μ; exact AW.noth
  | succ n ih =>
    intro v1 μ
    rw [L_Model_quarterGoes_2]
    refine AW.iload_n (i := 1) (a := v1) (by decide +kernel) rfl (?_ : AW _ _ _ _ 3 _ _ _ _ _ _)
    refine AW.iconst (n := 2) (by decide +kernel) (?_ : AW _ _ _ _ 4 _ _ _ _ _ _)
    refine AW.aload_n (i := 0) (a := 0) (by decide +kernel) rfl (?_ : AW _ _ _ _ 5 _ _ _ _ _ _)
    refine AW.getI (idx := 103) (ci := 9) (k := 6) (r := 0) (by decide +kernel) rfl rfl rfl (?_ : AW _ _ _ _ 8 _ _ _ _ _ _)
    refine AW.iadd (by decide +kernel) (?_ : AW _ _ _ _ 9 _ _ _ _ _ _)
    refine AW.icmp_ge (off := 71) (tgt := 80) (by decide +kernel) (by decide) (fun _ => ?_) (fun _ => ?_)
    · refine AW.sub (L' := [(0, zR (some 0))]) [0] rfl ?_
      exact hK  μ
    · refine AW.aload_n (i := 0) (a := 0) (by decide +kernel) rfl (?_ : AW _ _ _ _ 13 _ _ _ _ _ _)
      refine AW.getR (idx := 22) (ci := 9) (k := 7) (r := 0) (by decide +kernel) rfl rfl rfl (?_ : AW _ _ _ _ 16 _ _ _ _ _ _)
      refine AW.iload_n (i := 1) (a := v1) (by decide +kernel) rfl (?_ : AW _ _ _ _ 17 _ _ _ _ _ _)
      refine AW.iconst (n := 0) (by decide +kernel) (?_ : AW _ _ _ _ 18 _ _ _ _ _ _)
      refine AW.callP (g := cf_Model_ladderAt) (av := [zI v1, zI 0]) (idx := 141) (n := 2) (st := [zR (some 5)]) (by decide +kernel) (fun l hl r hr => c_Model_ladderAt l hl v1 0 _ r hr) rfl cal_Model_ladderAt rfl (zw3 zm_X9_141 zt_yX9_ladderAt zn_X9) ⟨by decide, by decide, by decide, by decide⟩ (Nat.le_of_ble_eq_true rfl) (fun v _ => AW.kI (fun x2 => (?_ : AW _ _ _ _ 21 _ _ _ _ _ _)) v)
      refine AW.lald (r := 5) (by decide +kernel) rfl (fun x3 => (?_ : AW _ _ _ _ 22 _ _ _ _ _ _))
      refine AW.aload_n (i := 0) (a := 0) (by decide +kernel) rfl (?_ : AW _ _ _ _ 23 _ _ _ _ _ _)
      refine AW.getR (idx := 22) (ci := 9) (k := 7) (r := 0) (by decide +kernel) rfl rfl rfl (?_ : AW _ _ _ _ 26 _ _ _ _ _ _)
      refine AW.iload_n (i := 1) (a := v1) (by decide +kernel) rfl (?_ : AW _ _ _ _ 27 _ _ _ _ _ _)
      refine AW.iconst (n := 1) (by decide +kernel) (?_ : AW _ _ _ _ 28 _ _ _ _ _ _)
      refine AW.callP (g := cf_Model_ladderAt) (av := [zI v1, zI 1]) (idx := 141) (n := 2) (st := [zR (some 5), zJ x3]) (by decide +kernel) (fun l hl r hr => c_Model_ladderAt l hl v1 1 _ r hr) rfl cal_Model_ladderAt rfl (zw3 zm_X9_141 zt_yX9_ladderAt zn_X9) ⟨by decide, by decide, by decide, by decide⟩ (Nat.le_of_ble_eq_true rfl) (fun v _ => AW.kI (fun x5 => (?_ : AW _ _ _ _ 31 _ _ _ _ _ _)) v)
      refine AW.lald (r := 5) (by decide +kernel) rfl (fun x6 => (?_ : AW _ _ _ _ 32 _ _ _ _ _ _))
      refine AW.ladd (by decide +kernel) (?_ : AW _ _ _ _ 33 _ _ _ _ _ _)
      refine AW.aload_n (i := 0) (a := 0) (by decide +kernel) rfl (?_ : AW _ _ _ _ 34 _ _ _ _ _ _)
      refine AW.getR (idx := 13) (ci := 9) (k := 2) (r := 0) (by decide +kernel) rfl rfl rfl (?_ : AW _ _ _ _ 37 _ _ _ _ _ _)
      refine AW.iconst (n := 0) (by decide +kernel) (?_ : AW _ _ _ _ 38 _ _ _ _ _ _)
      refine AW.iald (r := 2) (by decide +kernel) rfl (fun x7 => (?_ : AW _ _ _ _ 39 _ _ _ _ _ _))
      refine AW.i2l (by decide +kernel) (?_ : AW _ _ _ _ 40 _ _ _ _ _ _)
      refine AW.lmul (by decide +kernel) (?_ : AW _ _ _ _ 41 _ _ _ _ _ _)
      refine AW.ldc2 (idx := 180) (v := 10000) (by decide +kernel) zk_X9_180 (?_ : AW _ _ _ _ 44 _ _ _ _ _ _)
      refine AW.ldiv (by decide +kernel) (by decide +kernel) (?_ : AW _ _ _ _ 45 _ _ _ _ _ _)
      refine AW.lstoreL_n (i := 2) (L' := fun x8 => [(2, zJ x8), (0, zR (some 0)), (1, zI v1)]) (by decide +kernel) (by decide) (fun _ => rfl) (fun x8 => (?_ : AW _ _ _ _ 46 _ _ _ _ _ _))
      refine AW.aload_n (i := 0) (a := 0) (by decide +kernel) rfl (?_ : AW _ _ _ _ 47 _ _ _ _ _ _)
      refine AW.getR (idx := 22) (ci := 9) (k := 7) (r := 0) (by decide +kernel) rfl rfl rfl (?_ : AW _ _ _ _ 50 _ _ _ _ _ _)
      refine AW.iload_n (i := 1) (a := v1) (by decide +kernel) rfl (?_ : AW _ _ _ _ 51 _ _ _ _ _ _)
      refine AW.iconst (n := 1) (by decide +kernel) (?_ : AW _ _ _ _ 52 _ _ _ _ _ _)
      refine AW.callP (g := cf_Model_ladderAt) (av := [zI v1, zI 1]) (idx := 141) (n := 2) (st := [zR (some 5)]) (by decide +kernel) (fun l hl r hr => c_Model_ladderAt l hl v1 1 _ r hr) rfl cal_Model_ladderAt rfl (zw3 zm_X9_141 zt_yX9_ladderAt zn_X9) ⟨by decide, by decide, by decide, by decide⟩ (Nat.le_of_ble_eq_true rfl) (fun v _ => AW.kI (fun x10 => (?_ : AW _ _ _ _ 55 _ _ _ _ _ _)) v)
      refine AW.ldc2 (idx := 182) (v := 1000000000) (by decide +kernel) zk_X9_182 (?_ : AW _ _ _ _ 58 _ _ _ _ _ _)
      refine AW.aload_n (i := 0) (a := 0) (by decide +kernel) rfl (?_ : AW _ _ _ _ 59 _ _ _ _ _ _)
      refine AW.getR (idx := 22) (ci := 9) (k := 7) (r := 0) (by decide +kernel) rfl rfl rfl (?_ : AW _ _ _ _ 62 _ _ _ _ _ _)
      refine AW.iload_n (i := 1) (a := v1) (by decide +kernel) rfl (?_ : AW _ _ _ _ 63 _ _ _ _ _ _)
      refine AW.iconst (n := 1) (by decide +kernel) (?_ : AW _ _ _ _ 64 _ _ _ _ _ _)
      refine AW.callP (g := cf_Model_ladderAt) (av := [zI v1, zI 1]) (idx := 141) (n := 2) (st := [zR (some 5), zJ 1000000000, zI x10, zR (some 5)]) (by decide +kernel) (fun l hl r hr => c_Model_ladderAt l hl v1 1 _ r hr) rfl cal_Model_ladderAt rfl (zw3 zm_X9_141 zt_yX9_ladderAt zn_X9) ⟨by decide, by decide, by decide, by decide⟩ (Nat.le_of_ble_eq_true rfl) (fun v _ => AW.kI (fun x12 => (?_ : AW _ _ _ _ 67 _ _ _ _ _ _)) v)
      refine AW.lald (r := 5) (by decide +kernel) rfl (fun x13 => (?_ : AW _ _ _ _ 68 _ _ _ _ _ _))
      refine AW.lload_n (i := 2) (a := x8) (by decide +kernel) rfl (?_ : AW _ _ _ _ 69 _ _ _ _ _ _)
      refine AW.ladd (by decide +kernel) (?_ : AW _ _ _ _ 70 _ _ _ _ _ _)
      refine AW.callP (g := cf_Model_lesser) (av := [zJ 1000000000, zJ (x13 + x8)]) (idx := 144) (n := 2) (st := [zI x10, zR (some 5)]) (by decide +kernel) (fun l hl r hr => c_Model_lesser l hl 1000000000 (x13 + x8) _ r hr) rfl cal_Model_lesser rfl (zw3 zm_X9_144 zt_yX9_lesser zn_X9) ⟨by decide, by decide, by decide, by decide⟩ (Nat.le_of_ble_eq_true rfl) (fun v _ => AW.kJ (fun x15 => (?_ : AW _ _ _ _ 73 _ _ _ _ _ _)) v)
      refine AW.lastL (r := 5) (by decide +kernel) rfl (fun μ16 => (?_ : AW _ _ _ _ 74 _ _ _ _ _ _))
      refine AW.iincL (i := 1) (n := 1) (a := v1) (L' := fun x17 => [(1, zI x17), (2, zJ x8), (0, zR (some 0))]) (by decide +kernel) rfl (by decide) (fun _ => rfl) (fun x17 => (?_ : AW _ _ _ _ 77 _ _ _ _ _ _))
      refine AW.goto (off := -75) (tgt := 2) (by decide +kernel) (by decide) ?_
      refine AW.sub (L' := [(0, zR (some 0)), (1, zI x17)]) [2, 0] rfl ?_
      exact ih x17 μ16
def L_Model_quarterGoes_84 (μ : ZMem) (K : Int → Option ZRes) : Nat → Int → Int → Option ZRes
  | 0, _, _ => none
  | n + 1, v1, v3 => if w32 (μ 0 5) ≤ w32 v3 then (K v1) else (zC (F_Model_placeOf v3 0 μ) (zkI (fun x20 _ => zRd μ 5 92 x20 (fun x21 => zLet ((v1 + x21)) (fun x22 => zLet (v3 + 1) (fun x23 => L_Model_quarterGoes_84 μ K n x22 x23))))) zX0)
set_option maxRecDepth 100000 in
theorem l_Model_quarterGoes_84 {μ : ZMem} {K : Int → Option ZRes} (hK : ∀ (k1 : Int), AW cf_Model_quarterGoes S_Model.length S_Model S_Model 111 [(0, zR (some 0)), (1, zJ k1)] [] μ 0 0 (K k1)) : ∀ (n : Nat) (v1 : Int) (v3 : Int), AW cf_Model_quarterGoes S_Model.length S_Model S_Model 84 [(0, zR (some 0)), (1, zJ v1), (3, zI v3)] [] μ 0 0 (L_Model_quarterGoes_84 μ K n v1 v3) := by
  intro n
  induction n with
  | zero => intro v1 v3; exact AW.noth
  | succ n ih =>
    intro v1 v3
    rw [L_Model_quarterGoes_84]
    refine AW.iload_n (i := 3) (a := v3) (by decide +kernel) rfl (?_ : AW _ _ _ _ 85 _ _ _ _ _ _)
    refine AW.aload_n (i := 0) (a := 0) (by decide +kernel) rfl (?_ : AW _ _ _ _ 86 _ _ _ _ _ _)
    refine AW.getI (idx := 96) (ci := 9) (k := 5) (r := 0) (by decide +kernel) rfl rfl rfl (?_ : AW _ _ _ _ 89 _ _ _ _ _ _)
    refine AW.icmp_ge (off := 22) (tgt := 111) (by decide +kernel) (by decide) (fun _ => ?_) (fun _ => ?_)
    · refine AW.sub (L' := [(0, zR (some 0)), (1, zJ v1)]) [0, 1] rfl ?_
      exact hK v1
    · refine AW.lload_n (i := 1) (a := v1) (by decide +kernel) rfl (?_ : AW _ _ _ _ 93 _ _ _ _ _ _)
      refine AW.aload_n (i := 0) (a := 0) (by decide +kernel) rfl (?_ : AW _ _ _ _ 94 _ _ _ _ _ _)
      refine AW.getR (idx := 22) (ci := 9) (k := 7) (r := 0) (by decide +kernel) rfl rfl rfl (?_ : AW _ _ _ _ 97 _ _ _ _ _ _)
      refine AW.iload_n (i := 3) (a := v3) (by decide +kernel) rfl (?_ : AW _ _ _ _ 98 _ _ _ _ _ _)
      refine AW.iconst (n := 0) (by decide +kernel) (?_ : AW _ _ _ _ 99 _ _ _ _ _ _)
      refine AW.callP (g := cf_Model_placeOf) (av := [zI v3, zI 0]) (idx := 110) (n := 2) (st := [zR (some 5), zJ v1]) (by decide +kernel) (fun l hl r hr => c_Model_placeOf l hl v3 0 _ r hr) rfl cal_Model_placeOf rfl (zw3 zm_X9_110 zt_yX9_placeOf zn_X9) ⟨by decide, by decide, by decide, by decide⟩ (Nat.le_of_ble_eq_true rfl) (fun v _ => AW.kI (fun x20 => (?_ : AW _ _ _ _ 102 _ _ _ _ _ _)) v)
      refine AW.lald (r := 5) (by decide +kernel) rfl (fun x21 => (?_ : AW _ _ _ _ 103 _ _ _ _ _ _))
      refine AW.ladd (by decide +kernel) (?_ : AW _ _ _ _ 104 _ _ _ _ _ _)
      refine AW.lstoreL_n (i := 1) (L' := fun x22 => [(1, zJ x22), (0, zR (some 0)), (3, zI v3)]) (by decide +kernel) (by decide) (fun _ => rfl) (fun x22 => (?_ : AW _ _ _ _ 105 _ _ _ _ _ _))
      refine AW.iincL (i := 3) (n := 1) (a := v3) (L' := fun x23 => [(3, zI x23), (1, zJ x22), (0, zR (some 0))]) (by decide +kernel) rfl (by decide) (fun _ => rfl) (fun x23 => (?_ : AW _ _ _ _ 108 _ _ _ _ _ _))
      refine AW.goto (off := -24) (tgt := 84) (by decide +kernel) (by decide) ?_
      refine AW.sub (L' := [(0, zR (some 0)), (1, zJ x22), (3, zI x23)]) [2, 1, 0] rfl ?_
      exact ih x22 x23
def J_Model_quarterGoes_175 (μ : ZMem) : Option ZRes := zRd μ 5 92 90 (fun x38 => zWr μ 5 92 90 (x38 + 1) (fun μ39 => some (.inr none, μ39)))
set_option maxRecDepth 100000 in
theorem j_Model_quarterGoes_175 (μ : ZMem) : AW cf_Model_quarterGoes S_Model.length S_Model S_Model 175 [(0, zR (some 0))] [] μ 0 0 (J_Model_quarterGoes_175 μ) := by
  unfold J_Model_quarterGoes_175
  refine AW.aload_n (i := 0) (a := 0) (by decide +kernel) rfl (?_ : AW _ _ _ _ 176 _ _ _ _ _ _)
  refine AW.getR (idx := 22) (ci := 9) (k := 7) (r := 0) (by decide +kernel) rfl rfl rfl (?_ : AW _ _ _ _ 179 _ _ _ _ _ _)
  refine AW.bipush (n := 90) (by decide +kernel) (by decide +kernel) (?_ : AW _ _ _ _ 181 _ _ _ _ _ _)
  refine AW.dup2 (by decide +kernel) rfl rfl (?_ : AW _ _ _ _ 182 _ _ _ _ _ _)
  refine AW.lald (r := 5) (by decide +kernel) rfl (fun x38 => (?_ : AW _ _ _ _ 183 _ _ _ _ _ _))
  refine AW.lconst1 (by decide +kernel) (?_ : AW _ _ _ _ 184 _ _ _ _ _ _)
  refine AW.ladd (by decide +kernel) (?_ : AW _ _ _ _ 185 _ _ _ _ _ _)
  refine AW.lastL (r := 5) (by decide +kernel) rfl (fun μ39 => (?_ : AW _ _ _ _ 186 _ _ _ _ _ _))
  exact AW.retv (by decide +kernel) rfl (by decide) (by decide)
def F_Model_quarterGoes (μ : ZMem) : Option ZRes := L_Model_quarterGoes_2 (fun μ18 => L_Model_quarterGoes_84 μ18 (fun k24 => zC (F_Model_uncalled (-1) μ18) (zkJ (fun x26 μ25 => zRd μ25 2 7 6 (fun x27 => zC (F_Model_lesser x26 ((w64 ((w32 x27) * k24)).tdiv (w64 10000)) μ25) (zkJ (fun x29 _ => zC (F_Model_paysAll x29 (-1) μ25) (zkV (fun μ30 => zC (F_Model_ladderAt 0 0 μ30) (zkI (fun x33 _ => zRd μ30 5 92 x33 (fun x34 => zWr μ30 5 92 x33 (x34 + x29) (fun μ35 => zC (F_Model_isDealwise  μ35) (zkI (fun x37 μ36 => if w32 x37 = 0 then (J_Model_quarterGoes_175 μ36) else (zC (F_Model_ladderAt 1 0 μ36) (zkI (fun x41 _ => zRd μ36 5 92 x41 (fun x42 => zWr μ36 5 92 x41 (x42 + x29) (fun μ43 => J_Model_quarterGoes_175 μ43)))) zX0))) zX0)))) zX0)) zX0)) zX0))) zX0) zN 0 0) zN 0 μ
set_option maxRecDepth 100000 in
theorem w_Model_quarterGoes (μ : ZMem) : AW cf_Model_quarterGoes S_Model.length S_Model S_Model 0 [(0, zR (some 0))] [] μ 0 0 (F_Model_quarterGoes μ) := by
  unfold F_Model_quarterGoes
  refine AW.iconst (n := 0) (by decide +kernel) (?_ : AW _ _ _ _ 1 _ _ _ _ _ _)
  refine AW.istore_n' (i := 1) (L' := [(1, zI 0), (0, zR (some 0))]) (by decide +kernel) (by decide) rfl (?_ : AW _ _ _ _ 2 _ _ _ _ _ _)
  refine AW.sub (L' := [(0, zR (some 0)), (1, zI 0)]) [1, 0] rfl ?_
  refine l_Model_quarterGoes_2 (fun μ18 => ?_) zN _ _
  refine AW.lconst0 (by decide +kernel) (?_ : AW _ _ _ _ 81 _ _ _ _ _ _)
  refine AW.lstore_n' (i := 1) (L' := [(1, zJ 0), (0, zR (some 0))]) (by decide +kernel) (by decide) rfl (?_ : AW _ _ _ _ 82 _ _ _ _ _ _)
  refine AW.iconst (n := 0) (by decide +kernel) (?_ : AW _ _ _ _ 83 _ _ _ _ _ _)
  refine AW.istore_n' (i := 3) (L' := [(3, zI 0), (1, zJ 0), (0, zR (some 0))]) (by decide +kernel) (by decide) rfl (?_ : AW _ _ _ _ 84 _ _ _ _ _ _)
  refine AW.sub (L' := [(0, zR (some 0)), (1, zJ 0), (3, zI 0)]) [2, 1, 0] rfl ?_
  refine l_Model_quarterGoes_84 (fun k24 => ?_) zN _ _
  refine AW.aload_n (i := 0) (a := 0) (by decide +kernel) rfl (?_ : AW _ _ _ _ 112 _ _ _ _ _ _)
  refine AW.iconst (n := -1) (by decide +kernel) (?_ : AW _ _ _ _ 113 _ _ _ _ _ _)
  refine AW.callVw (g := cf_Model_uncalled) (av := [zI (-1)]) (b0 := 0) (ci := 9) (idx := 184) (n := 1) (st := []) (by decide +kernel) (fun l hl r hr => c_Model_uncalled l hl (-1) _ r hr) S_Model_wf rfl cal_Model_uncalled rfl (zw4 zm_X9_184 zi_yX9_uncalled zs_yX9_uncalled zn_X9) rfl rfl ⟨by decide, by decide, by decide, by decide⟩ (Nat.le_of_ble_eq_true rfl) (Or.inl rfl) (fun v μ25 => AW.kJ (fun x26 => (?_ : AW _ _ _ _ 116 _ _ _ _ _ _)) v)
  refine AW.aload_n (i := 0) (a := 0) (by decide +kernel) rfl (?_ : AW _ _ _ _ 117 _ _ _ _ _ _)
  refine AW.getR (idx := 13) (ci := 9) (k := 2) (r := 0) (by decide +kernel) rfl rfl rfl (?_ : AW _ _ _ _ 120 _ _ _ _ _ _)
  refine AW.bipush (n := 6) (by decide +kernel) (by decide +kernel) (?_ : AW _ _ _ _ 122 _ _ _ _ _ _)
  refine AW.iald (r := 2) (by decide +kernel) rfl (fun x27 => (?_ : AW _ _ _ _ 123 _ _ _ _ _ _))
  refine AW.i2l (by decide +kernel) (?_ : AW _ _ _ _ 124 _ _ _ _ _ _)
  refine AW.lload_n (i := 1) (a := k24) (by decide +kernel) rfl (?_ : AW _ _ _ _ 125 _ _ _ _ _ _)
  refine AW.lmul (by decide +kernel) (?_ : AW _ _ _ _ 126 _ _ _ _ _ _)
  refine AW.ldc2 (idx := 180) (v := 10000) (by decide +kernel) zk_X9_180 (?_ : AW _ _ _ _ 129 _ _ _ _ _ _)
  refine AW.ldiv (by decide +kernel) (by decide +kernel) (?_ : AW _ _ _ _ 130 _ _ _ _ _ _)
  refine AW.callP (g := cf_Model_lesser) (av := [zJ x26, zJ ((w64 ((w32 x27) * k24)).tdiv (w64 10000))]) (idx := 144) (n := 2) (st := []) (by decide +kernel) (fun l hl r hr => c_Model_lesser l hl x26 ((w64 ((w32 x27) * k24)).tdiv (w64 10000)) _ r hr) rfl cal_Model_lesser rfl (zw3 zm_X9_144 zt_yX9_lesser zn_X9) ⟨by decide, by decide, by decide, by decide⟩ (Nat.le_of_ble_eq_true rfl) (fun v _ => AW.kJ (fun x29 => (?_ : AW _ _ _ _ 133 _ _ _ _ _ _)) v)
  refine AW.lstore_n' (i := 3) (L' := [(3, zJ x29), (0, zR (some 0)), (1, zJ k24)]) (by decide +kernel) (by decide) rfl (?_ : AW _ _ _ _ 134 _ _ _ _ _ _)
  refine AW.aload_n (i := 0) (a := 0) (by decide +kernel) rfl (?_ : AW _ _ _ _ 135 _ _ _ _ _ _)
  refine AW.lload_n (i := 3) (a := x29) (by decide +kernel) rfl (?_ : AW _ _ _ _ 136 _ _ _ _ _ _)
  refine AW.iconst (n := -1) (by decide +kernel) (?_ : AW _ _ _ _ 137 _ _ _ _ _ _)
  refine AW.callVw (g := cf_Model_paysAll) (av := [zJ x29, zI (-1)]) (b0 := 0) (ci := 9) (idx := 187) (n := 2) (st := []) (by decide +kernel) (fun l hl r hr => c_Model_paysAll l hl x29 (-1) _ r hr) S_Model_wf rfl cal_Model_paysAll rfl (zw4 zm_X9_187 zi_yX9_paysAll zs_yX9_paysAll zn_X9) rfl rfl ⟨by decide, by decide, by decide, by decide⟩ (Nat.le_of_ble_eq_true rfl) (Or.inl rfl) (fun v μ30 => AW.kV (?_ : AW _ _ _ _ 140 _ _ _ _ _ _) v)
  refine AW.aload_n (i := 0) (a := 0) (by decide +kernel) rfl (?_ : AW _ _ _ _ 141 _ _ _ _ _ _)
  refine AW.getR (idx := 22) (ci := 9) (k := 7) (r := 0) (by decide +kernel) rfl rfl rfl (?_ : AW _ _ _ _ 144 _ _ _ _ _ _)
  refine AW.iconst (n := 0) (by decide +kernel) (?_ : AW _ _ _ _ 145 _ _ _ _ _ _)
  refine AW.iconst (n := 0) (by decide +kernel) (?_ : AW _ _ _ _ 146 _ _ _ _ _ _)
  refine AW.callP (g := cf_Model_ladderAt) (av := [zI 0, zI 0]) (idx := 141) (n := 2) (st := [zR (some 5)]) (by decide +kernel) (fun l hl r hr => c_Model_ladderAt l hl 0 0 _ r hr) rfl cal_Model_ladderAt rfl (zw3 zm_X9_141 zt_yX9_ladderAt zn_X9) ⟨by decide, by decide, by decide, by decide⟩ (Nat.le_of_ble_eq_true rfl) (fun v _ => AW.kI (fun x33 => (?_ : AW _ _ _ _ 149 _ _ _ _ _ _)) v)
  refine AW.dup2 (by decide +kernel) rfl rfl (?_ : AW _ _ _ _ 150 _ _ _ _ _ _)
  refine AW.lald (r := 5) (by decide +kernel) rfl (fun x34 => (?_ : AW _ _ _ _ 151 _ _ _ _ _ _))
  refine AW.lload_n (i := 3) (a := x29) (by decide +kernel) rfl (?_ : AW _ _ _ _ 152 _ _ _ _ _ _)
  refine AW.ladd (by decide +kernel) (?_ : AW _ _ _ _ 153 _ _ _ _ _ _)
  refine AW.lastL (r := 5) (by decide +kernel) rfl (fun μ35 => (?_ : AW _ _ _ _ 154 _ _ _ _ _ _))
  refine AW.aload_n (i := 0) (a := 0) (by decide +kernel) rfl (?_ : AW _ _ _ _ 155 _ _ _ _ _ _)
  refine AW.callVw (g := cf_Model_isDealwise) (av := []) (b0 := 0) (ci := 9) (idx := 173) (n := 0) (st := []) (by decide +kernel) (fun l hl r hr => c_Model_isDealwise l hl  _ r hr) S_Model_wf rfl cal_Model_isDealwise rfl (zw4 zm_X9_173 zi_yX9_isDealwise zs_yX9_isDealwise zn_X9) rfl rfl ⟨by decide, by decide, by decide, by decide⟩ (Nat.le_of_ble_eq_true rfl) (Or.inl rfl) (fun v μ36 => AW.kI (fun x37 => (?_ : AW _ _ _ _ 158 _ _ _ _ _ _)) v)
  refine AW.if_eq (off := 17) (tgt := 175) (by decide +kernel) (by decide) (fun _ => ?_) (fun _ => ?_)
  · refine AW.sub (L' := [(0, zR (some 0))]) [1] rfl ?_
    exact j_Model_quarterGoes_175 μ36
  · refine AW.aload_n (i := 0) (a := 0) (by decide +kernel) rfl (?_ : AW _ _ _ _ 162 _ _ _ _ _ _)
    refine AW.getR (idx := 22) (ci := 9) (k := 7) (r := 0) (by decide +kernel) rfl rfl rfl (?_ : AW _ _ _ _ 165 _ _ _ _ _ _)
    refine AW.iconst (n := 1) (by decide +kernel) (?_ : AW _ _ _ _ 166 _ _ _ _ _ _)
    refine AW.iconst (n := 0) (by decide +kernel) (?_ : AW _ _ _ _ 167 _ _ _ _ _ _)
    refine AW.callP (g := cf_Model_ladderAt) (av := [zI 1, zI 0]) (idx := 141) (n := 2) (st := [zR (some 5)]) (by decide +kernel) (fun l hl r hr => c_Model_ladderAt l hl 1 0 _ r hr) rfl cal_Model_ladderAt rfl (zw3 zm_X9_141 zt_yX9_ladderAt zn_X9) ⟨by decide, by decide, by decide, by decide⟩ (Nat.le_of_ble_eq_true rfl) (fun v _ => AW.kI (fun x41 => (?_ : AW _ _ _ _ 170 _ _ _ _ _ _)) v)
    refine AW.dup2 (by decide +kernel) rfl rfl (?_ : AW _ _ _ _ 171 _ _ _ _ _ _)
    refine AW.lald (r := 5) (by decide +kernel) rfl (fun x42 => (?_ : AW _ _ _ _ 172 _ _ _ _ _ _))
    refine AW.lload_n (i := 3) (a := x29) (by decide +kernel) rfl (?_ : AW _ _ _ _ 173 _ _ _ _ _ _)
    refine AW.ladd (by decide +kernel) (?_ : AW _ _ _ _ 174 _ _ _ _ _ _)
    refine AW.lastL (r := 5) (by decide +kernel) rfl (fun μ43 => (?_ : AW _ _ _ _ 175 _ _ _ _ _ _))
    refine AW.sub (L' := [(0, zR (some 0))]) [1] rfl ?_
    exact j_Model_quarterGoes_175 μ43
theorem c_Model_quarterGoes (l : Launch) (hl : l.stackTraces = false) (μ : ZMem) (r : ZRes) (h : F_Model_quarterGoes μ = some r) : ZC l cf_Model_quarterGoes S_Model S_Model [zR (some 0)] μ r := ZC.of hl (by decide +kernel) rfl rfl zft_X9_ok (Nat.le_of_ble_eq_true rfl) h (w_Model_quarterGoes μ)
/-! WeirLedgerModel.fromHeld()J -/
def cf_Model_fromHeld : ZCf := (yX9_fromHeld, cX9_fromHeld, 1, some .long, [], 3, 0, 0, zft_X9, none)
theorem cal_Model_fromHeld : zCallee cf_Model_fromHeld 0 := ⟨rfl, zc_yX9_fromHeld, by decide, by decide, by decide +kernel⟩
def F_Model_fromHeld (μ : ZMem) : Option ZRes := zRd μ 5 92 88 (fun x1 => zRd μ 5 92 86 (fun x2 => zC (F_Model_ladderAt 0 3 μ) (zkI (fun x4 _ => zRd μ 5 92 x4 (fun x5 => zC (F_Model_greater 0 (x2 - x5) μ) (zkJ (fun x7 _ => zC (F_Model_lesser x1 x7 μ) (zkJ (fun x9 _ => some (.inr (some (zJ x9)), μ))) zX0)) zX0))) zX0))
set_option maxRecDepth 100000 in
theorem w_Model_fromHeld (μ : ZMem) : AW cf_Model_fromHeld S_Model.length S_Model S_Model 0 [(0, zR (some 0))] [] μ 0 0 (F_Model_fromHeld μ) := by
  unfold F_Model_fromHeld
  refine AW.aload_n (i := 0) (a := 0) (by decide +kernel) rfl (?_ : AW _ _ _ _ 1 _ _ _ _ _ _)
  refine AW.getR (idx := 22) (ci := 9) (k := 7) (r := 0) (by decide +kernel) rfl rfl rfl (?_ : AW _ _ _ _ 4 _ _ _ _ _ _)
  refine AW.bipush (n := 88) (by decide +kernel) (by decide +kernel) (?_ : AW _ _ _ _ 6 _ _ _ _ _ _)
  refine AW.lald (r := 5) (by decide +kernel) rfl (fun x1 => (?_ : AW _ _ _ _ 7 _ _ _ _ _ _))
  refine AW.lconst0 (by decide +kernel) (?_ : AW _ _ _ _ 8 _ _ _ _ _ _)
  refine AW.aload_n (i := 0) (a := 0) (by decide +kernel) rfl (?_ : AW _ _ _ _ 9 _ _ _ _ _ _)
  refine AW.getR (idx := 22) (ci := 9) (k := 7) (r := 0) (by decide +kernel) rfl rfl rfl (?_ : AW _ _ _ _ 12 _ _ _ _ _ _)
  refine AW.bipush (n := 86) (by decide +kernel) (by decide +kernel) (?_ : AW _ _ _ _ 14 _ _ _ _ _ _)
  refine AW.lald (r := 5) (by decide +kernel) rfl (fun x2 => (?_ : AW _ _ _ _ 15 _ _ _ _ _ _))
  refine AW.aload_n (i := 0) (a := 0) (by decide +kernel) rfl (?_ : AW _ _ _ _ 16 _ _ _ _ _ _)
  refine AW.getR (idx := 22) (ci := 9) (k := 7) (r := 0) (by decide +kernel) rfl rfl rfl (?_ : AW _ _ _ _ 19 _ _ _ _ _ _)
  refine AW.iconst (n := 0) (by decide +kernel) (?_ : AW _ _ _ _ 20 _ _ _ _ _ _)
  refine AW.iconst (n := 3) (by decide +kernel) (?_ : AW _ _ _ _ 21 _ _ _ _ _ _)
  refine AW.callP (g := cf_Model_ladderAt) (av := [zI 0, zI 3]) (idx := 141) (n := 2) (st := [zR (some 5), zJ x2, zJ 0, zJ x1]) (by decide +kernel) (fun l hl r hr => c_Model_ladderAt l hl 0 3 _ r hr) rfl cal_Model_ladderAt rfl (zw3 zm_X9_141 zt_yX9_ladderAt zn_X9) ⟨by decide, by decide, by decide, by decide⟩ (Nat.le_of_ble_eq_true rfl) (fun v _ => AW.kI (fun x4 => (?_ : AW _ _ _ _ 24 _ _ _ _ _ _)) v)
  refine AW.lald (r := 5) (by decide +kernel) rfl (fun x5 => (?_ : AW _ _ _ _ 25 _ _ _ _ _ _))
  refine AW.lsub (by decide +kernel) (?_ : AW _ _ _ _ 26 _ _ _ _ _ _)
  refine AW.callP (g := cf_Model_greater) (av := [zJ 0, zJ (x2 - x5)]) (idx := 190) (n := 2) (st := [zJ x1]) (by decide +kernel) (fun l hl r hr => c_Model_greater l hl 0 (x2 - x5) _ r hr) rfl cal_Model_greater rfl (zw3 zm_X9_190 zt_yX9_greater zn_X9) ⟨by decide, by decide, by decide, by decide⟩ (Nat.le_of_ble_eq_true rfl) (fun v _ => AW.kJ (fun x7 => (?_ : AW _ _ _ _ 29 _ _ _ _ _ _)) v)
  refine AW.callP (g := cf_Model_lesser) (av := [zJ x1, zJ x7]) (idx := 144) (n := 2) (st := []) (by decide +kernel) (fun l hl r hr => c_Model_lesser l hl x1 x7 _ r hr) rfl cal_Model_lesser rfl (zw3 zm_X9_144 zt_yX9_lesser zn_X9) ⟨by decide, by decide, by decide, by decide⟩ (Nat.le_of_ble_eq_true rfl) (fun v _ => AW.kJ (fun x9 => (?_ : AW _ _ _ _ 32 _ _ _ _ _ _)) v)
  exact AW.retl (by decide +kernel) rfl (by decide) (by decide)
theorem c_Model_fromHeld (l : Launch) (hl : l.stackTraces = false) (μ : ZMem) (r : ZRes) (h : F_Model_fromHeld μ = some r) : ZC l cf_Model_fromHeld S_Model S_Model [zR (some 0)] μ r := ZC.of hl (by decide +kernel) rfl rfl zft_X9_ok (Nat.le_of_ble_eq_true rfl) h (w_Model_fromHeld μ)
/-! WeirLedgerModel.fromOut()J -/
def cf_Model_fromOut : ZCf := (yX9_fromOut, cX9_fromOut, 3, some .long, [], 4, 0, 0, zft_X9, none)
theorem cal_Model_fromOut : zCallee cf_Model_fromOut 0 := ⟨rfl, zc_yX9_fromOut, by decide, by decide, by decide +kernel⟩
def F_Model_fromOut (μ : ZMem) : Option ZRes := zRd μ 5 92 86 (fun x1 => zC (F_Model_ladderAt 0 3 μ) (zkI (fun x3 _ => zRd μ 5 92 x3 (fun x4 => zC (F_Model_greater 0 (x1 - x4) μ) (zkJ (fun x6 _ => zC (F_Model_fromHeld  μ) (zkJ (fun x8 μ7 => zLet ((x6 - x8)) (fun x9 => zRd μ7 5 92 87 (fun x10 => zRd μ7 5 92 87 (fun x11 => zRd μ7 2 7 4 (fun x12 => zC (F_Model_lesser x9 (x10 - ((w64 (x11 * (w32 x12))).tdiv (w64 100))) μ7) (zkJ (fun x14 _ => some (.inr (some (zJ x14)), μ7))) zX0)))))) zX0)) zX0))) zX0)
set_option maxRecDepth 100000 in
theorem w_Model_fromOut (μ : ZMem) : AW cf_Model_fromOut S_Model.length S_Model S_Model 0 [(0, zR (some 0))] [] μ 0 0 (F_Model_fromOut μ) := by
  unfold F_Model_fromOut
  refine AW.lconst0 (by decide +kernel) (?_ : AW _ _ _ _ 1 _ _ _ _ _ _)
  refine AW.aload_n (i := 0) (a := 0) (by decide +kernel) rfl (?_ : AW _ _ _ _ 2 _ _ _ _ _ _)
  refine AW.getR (idx := 22) (ci := 9) (k := 7) (r := 0) (by decide +kernel) rfl rfl rfl (?_ : AW _ _ _ _ 5 _ _ _ _ _ _)
  refine AW.bipush (n := 86) (by decide +kernel) (by decide +kernel) (?_ : AW _ _ _ _ 7 _ _ _ _ _ _)
  refine AW.lald (r := 5) (by decide +kernel) rfl (fun x1 => (?_ : AW _ _ _ _ 8 _ _ _ _ _ _))
  refine AW.aload_n (i := 0) (a := 0) (by decide +kernel) rfl (?_ : AW _ _ _ _ 9 _ _ _ _ _ _)
  refine AW.getR (idx := 22) (ci := 9) (k := 7) (r := 0) (by decide +kernel) rfl rfl rfl (?_ : AW _ _ _ _ 12 _ _ _ _ _ _)
  refine AW.iconst (n := 0) (by decide +kernel) (?_ : AW _ _ _ _ 13 _ _ _ _ _ _)
  refine AW.iconst (n := 3) (by decide +kernel) (?_ : AW _ _ _ _ 14 _ _ _ _ _ _)
  refine AW.callP (g := cf_Model_ladderAt) (av := [zI 0, zI 3]) (idx := 141) (n := 2) (st := [zR (some 5), zJ x1, zJ 0]) (by decide +kernel) (fun l hl r hr => c_Model_ladderAt l hl 0 3 _ r hr) rfl cal_Model_ladderAt rfl (zw3 zm_X9_141 zt_yX9_ladderAt zn_X9) ⟨by decide, by decide, by decide, by decide⟩ (Nat.le_of_ble_eq_true rfl) (fun v _ => AW.kI (fun x3 => (?_ : AW _ _ _ _ 17 _ _ _ _ _ _)) v)
  refine AW.lald (r := 5) (by decide +kernel) rfl (fun x4 => (?_ : AW _ _ _ _ 18 _ _ _ _ _ _))
  refine AW.lsub (by decide +kernel) (?_ : AW _ _ _ _ 19 _ _ _ _ _ _)
  refine AW.callP (g := cf_Model_greater) (av := [zJ 0, zJ (x1 - x4)]) (idx := 190) (n := 2) (st := []) (by decide +kernel) (fun l hl r hr => c_Model_greater l hl 0 (x1 - x4) _ r hr) rfl cal_Model_greater rfl (zw3 zm_X9_190 zt_yX9_greater zn_X9) ⟨by decide, by decide, by decide, by decide⟩ (Nat.le_of_ble_eq_true rfl) (fun v _ => AW.kJ (fun x6 => (?_ : AW _ _ _ _ 22 _ _ _ _ _ _)) v)
  refine AW.aload_n (i := 0) (a := 0) (by decide +kernel) rfl (?_ : AW _ _ _ _ 23 _ _ _ _ _ _)
  refine AW.callVw (g := cf_Model_fromHeld) (av := []) (b0 := 0) (ci := 9) (idx := 193) (n := 0) (st := [zJ x6]) (by decide +kernel) (fun l hl r hr => c_Model_fromHeld l hl  _ r hr) S_Model_wf rfl cal_Model_fromHeld rfl (zw4 zm_X9_193 zi_yX9_fromHeld zs_yX9_fromHeld zn_X9) rfl rfl ⟨by decide, by decide, by decide, by decide⟩ (Nat.le_of_ble_eq_true rfl) (Or.inl rfl) (fun v μ7 => AW.kJ (fun x8 => (?_ : AW _ _ _ _ 26 _ _ _ _ _ _)) v)
  refine AW.lsub (by decide +kernel) (?_ : AW _ _ _ _ 27 _ _ _ _ _ _)
  refine AW.lstoreL_n (i := 1) (L' := fun x9 => [(1, zJ x9), (0, zR (some 0))]) (by decide +kernel) (by decide) (fun _ => rfl) (fun x9 => (?_ : AW _ _ _ _ 28 _ _ _ _ _ _))
  refine AW.lload_n (i := 1) (a := x9) (by decide +kernel) rfl (?_ : AW _ _ _ _ 29 _ _ _ _ _ _)
  refine AW.aload_n (i := 0) (a := 0) (by decide +kernel) rfl (?_ : AW _ _ _ _ 30 _ _ _ _ _ _)
  refine AW.getR (idx := 22) (ci := 9) (k := 7) (r := 0) (by decide +kernel) rfl rfl rfl (?_ : AW _ _ _ _ 33 _ _ _ _ _ _)
  refine AW.bipush (n := 87) (by decide +kernel) (by decide +kernel) (?_ : AW _ _ _ _ 35 _ _ _ _ _ _)
  refine AW.lald (r := 5) (by decide +kernel) rfl (fun x10 => (?_ : AW _ _ _ _ 36 _ _ _ _ _ _))
  refine AW.aload_n (i := 0) (a := 0) (by decide +kernel) rfl (?_ : AW _ _ _ _ 37 _ _ _ _ _ _)
  refine AW.getR (idx := 22) (ci := 9) (k := 7) (r := 0) (by decide +kernel) rfl rfl rfl (?_ : AW _ _ _ _ 40 _ _ _ _ _ _)
  refine AW.bipush (n := 87) (by decide +kernel) (by decide +kernel) (?_ : AW _ _ _ _ 42 _ _ _ _ _ _)
  refine AW.lald (r := 5) (by decide +kernel) rfl (fun x11 => (?_ : AW _ _ _ _ 43 _ _ _ _ _ _))
  refine AW.aload_n (i := 0) (a := 0) (by decide +kernel) rfl (?_ : AW _ _ _ _ 44 _ _ _ _ _ _)
  refine AW.getR (idx := 13) (ci := 9) (k := 2) (r := 0) (by decide +kernel) rfl rfl rfl (?_ : AW _ _ _ _ 47 _ _ _ _ _ _)
  refine AW.iconst (n := 4) (by decide +kernel) (?_ : AW _ _ _ _ 48 _ _ _ _ _ _)
  refine AW.iald (r := 2) (by decide +kernel) rfl (fun x12 => (?_ : AW _ _ _ _ 49 _ _ _ _ _ _))
  refine AW.i2l (by decide +kernel) (?_ : AW _ _ _ _ 50 _ _ _ _ _ _)
  refine AW.lmul (by decide +kernel) (?_ : AW _ _ _ _ 51 _ _ _ _ _ _)
  refine AW.ldc2 (idx := 150) (v := 100) (by decide +kernel) zk_X9_150 (?_ : AW _ _ _ _ 54 _ _ _ _ _ _)
  refine AW.ldiv (by decide +kernel) (by decide +kernel) (?_ : AW _ _ _ _ 55 _ _ _ _ _ _)
  refine AW.lsub (by decide +kernel) (?_ : AW _ _ _ _ 56 _ _ _ _ _ _)
  refine AW.callP (g := cf_Model_lesser) (av := [zJ x9, zJ (x10 - ((w64 (x11 * (w32 x12))).tdiv (w64 100)))]) (idx := 144) (n := 2) (st := []) (by decide +kernel) (fun l hl r hr => c_Model_lesser l hl x9 (x10 - ((w64 (x11 * (w32 x12))).tdiv (w64 100))) _ r hr) rfl cal_Model_lesser rfl (zw3 zm_X9_144 zt_yX9_lesser zn_X9) ⟨by decide, by decide, by decide, by decide⟩ (Nat.le_of_ble_eq_true rfl) (fun v _ => AW.kJ (fun x14 => (?_ : AW _ _ _ _ 59 _ _ _ _ _ _)) v)
  exact AW.retl (by decide +kernel) rfl (by decide) (by decide)
theorem c_Model_fromOut (l : Launch) (hl : l.stackTraces = false) (μ : ZMem) (r : ZRes) (h : F_Model_fromOut μ = some r) : ZC l cf_Model_fromOut S_Model S_Model [zR (some 0)] μ r := ZC.of hl (by decide +kernel) rfl rfl zft_X9_ok (Nat.le_of_ble_eq_true rfl) h (w_Model_fromOut μ)
/-! WeirLedgerModel.ends()V -/
def cf_Model_ends : ZCf := (yX9_ends, cX9_ends, 5, none, [], 6, 0, 0, zft_X9, none)
theorem cal_Model_ends : zCallee cf_Model_ends 0 := ⟨rfl, zc_yX9_ends, by decide, by decide, by decide +kernel⟩
def F_Model_ends (μ : ZMem) : Option ZRes := zC (F_Model_fromHeld  μ) (zkJ (fun x2 μ1 => zC (F_Model_fromOut  μ1) (zkJ (fun x4 μ3 => zRd μ3 5 92 88 (fun x5 => zWr μ3 5 92 88 (x5 - x2) (fun μ6 => zRd μ6 5 92 87 (fun x7 => zRd μ6 5 92 88 (fun x8 => zWr μ6 5 92 87 (x7 + (x8 - x4)) (fun μ9 => zWr μ9 5 92 88 0 (fun μ10 => zRd μ10 5 92 89 (fun x11 => zWr μ10 5 92 89 (x11 + (x2 + x4)) (fun μ12 => zWr μ12 9 61 (μ12 0 14) (x2 + x4) (fun μ13 => zC (F_Model_getsAll (x2 + x4) (-1) μ13) (zkV (fun μ14 => zWr μ14 5 92 91 1 (fun μ16 => some (.inr none, μ16)))) zX0))))))))))) zX0)) zX0
set_option maxRecDepth 100000 in
theorem w_Model_ends (μ : ZMem) : AW cf_Model_ends S_Model.length S_Model S_Model 0 [(0, zR (some 0))] [] μ 0 0 (F_Model_ends μ) := by
  unfold F_Model_ends
  refine AW.aload_n (i := 0) (a := 0) (by decide +kernel) rfl (?_ : AW _ _ _ _ 1 _ _ _ _ _ _)
  refine AW.callVw (g := cf_Model_fromHeld) (av := []) (b0 := 0) (ci := 9) (idx := 193) (n := 0) (st := []) (by decide +kernel) (fun l hl r hr => c_Model_fromHeld l hl  _ r hr) S_Model_wf rfl cal_Model_fromHeld rfl (zw4 zm_X9_193 zi_yX9_fromHeld zs_yX9_fromHeld zn_X9) rfl rfl ⟨by decide, by decide, by decide, by decide⟩ (Nat.le_of_ble_eq_true rfl) (Or.inl rfl) (fun v μ1 => AW.kJ (fun x2 => (?_ : AW _ _ _ _ 4 _ _ _ _ _ _)) v)
  refine AW.lstore_n' (i := 1) (L' := [(1, zJ x2), (0, zR (some 0))]) (by decide +kernel) (by decide) rfl (?_ : AW _ _ _ _ 5 _ _ _ _ _ _)
  refine AW.aload_n (i := 0) (a := 0) (by decide +kernel) rfl (?_ : AW _ _ _ _ 6 _ _ _ _ _ _)
  refine AW.callVw (g := cf_Model_fromOut) (av := []) (b0 := 0) (ci := 9) (idx := 197) (n := 0) (st := []) (by decide +kernel) (fun l hl r hr => c_Model_fromOut l hl  _ r hr) S_Model_wf rfl cal_Model_fromOut rfl (zw4 zm_X9_197 zi_yX9_fromOut zs_yX9_fromOut zn_X9) rfl rfl ⟨by decide, by decide, by decide, by decide⟩ (Nat.le_of_ble_eq_true rfl) (Or.inl rfl) (fun v μ3 => AW.kJ (fun x4 => (?_ : AW _ _ _ _ 9 _ _ _ _ _ _)) v)
  refine AW.lstore_n' (i := 3) (L' := [(3, zJ x4), (1, zJ x2), (0, zR (some 0))]) (by decide +kernel) (by decide) rfl (?_ : AW _ _ _ _ 10 _ _ _ _ _ _)
  refine AW.aload_n (i := 0) (a := 0) (by decide +kernel) rfl (?_ : AW _ _ _ _ 11 _ _ _ _ _ _)
  refine AW.getR (idx := 22) (ci := 9) (k := 7) (r := 0) (by decide +kernel) rfl rfl rfl (?_ : AW _ _ _ _ 14 _ _ _ _ _ _)
  refine AW.bipush (n := 88) (by decide +kernel) (by decide +kernel) (?_ : AW _ _ _ _ 16 _ _ _ _ _ _)
  refine AW.dup2 (by decide +kernel) rfl rfl (?_ : AW _ _ _ _ 17 _ _ _ _ _ _)
  refine AW.lald (r := 5) (by decide +kernel) rfl (fun x5 => (?_ : AW _ _ _ _ 18 _ _ _ _ _ _))
  refine AW.lload_n (i := 1) (a := x2) (by decide +kernel) rfl (?_ : AW _ _ _ _ 19 _ _ _ _ _ _)
  refine AW.lsub (by decide +kernel) (?_ : AW _ _ _ _ 20 _ _ _ _ _ _)
  refine AW.lastL (r := 5) (by decide +kernel) rfl (fun μ6 => (?_ : AW _ _ _ _ 21 _ _ _ _ _ _))
  refine AW.aload_n (i := 0) (a := 0) (by decide +kernel) rfl (?_ : AW _ _ _ _ 22 _ _ _ _ _ _)
  refine AW.getR (idx := 22) (ci := 9) (k := 7) (r := 0) (by decide +kernel) rfl rfl rfl (?_ : AW _ _ _ _ 25 _ _ _ _ _ _)
  refine AW.bipush (n := 87) (by decide +kernel) (by decide +kernel) (?_ : AW _ _ _ _ 27 _ _ _ _ _ _)
  refine AW.dup2 (by decide +kernel) rfl rfl (?_ : AW _ _ _ _ 28 _ _ _ _ _ _)
  refine AW.lald (r := 5) (by decide +kernel) rfl (fun x7 => (?_ : AW _ _ _ _ 29 _ _ _ _ _ _))
  refine AW.aload_n (i := 0) (a := 0) (by decide +kernel) rfl (?_ : AW _ _ _ _ 30 _ _ _ _ _ _)
  refine AW.getR (idx := 22) (ci := 9) (k := 7) (r := 0) (by decide +kernel) rfl rfl rfl (?_ : AW _ _ _ _ 33 _ _ _ _ _ _)
  refine AW.bipush (n := 88) (by decide +kernel) (by decide +kernel) (?_ : AW _ _ _ _ 35 _ _ _ _ _ _)
  refine AW.lald (r := 5) (by decide +kernel) rfl (fun x8 => (?_ : AW _ _ _ _ 36 _ _ _ _ _ _))
  refine AW.lload_n (i := 3) (a := x4) (by decide +kernel) rfl (?_ : AW _ _ _ _ 37 _ _ _ _ _ _)
  refine AW.lsub (by decide +kernel) (?_ : AW _ _ _ _ 38 _ _ _ _ _ _)
  refine AW.ladd (by decide +kernel) (?_ : AW _ _ _ _ 39 _ _ _ _ _ _)
  refine AW.lastL (r := 5) (by decide +kernel) rfl (fun μ9 => (?_ : AW _ _ _ _ 40 _ _ _ _ _ _))
  refine AW.aload_n (i := 0) (a := 0) (by decide +kernel) rfl (?_ : AW _ _ _ _ 41 _ _ _ _ _ _)
  refine AW.getR (idx := 22) (ci := 9) (k := 7) (r := 0) (by decide +kernel) rfl rfl rfl (?_ : AW _ _ _ _ 44 _ _ _ _ _ _)
  refine AW.bipush (n := 88) (by decide +kernel) (by decide +kernel) (?_ : AW _ _ _ _ 46 _ _ _ _ _ _)
  refine AW.lconst0 (by decide +kernel) (?_ : AW _ _ _ _ 47 _ _ _ _ _ _)
  refine AW.lastL (r := 5) (by decide +kernel) rfl (fun μ10 => (?_ : AW _ _ _ _ 48 _ _ _ _ _ _))
  refine AW.aload_n (i := 0) (a := 0) (by decide +kernel) rfl (?_ : AW _ _ _ _ 49 _ _ _ _ _ _)
  refine AW.getR (idx := 22) (ci := 9) (k := 7) (r := 0) (by decide +kernel) rfl rfl rfl (?_ : AW _ _ _ _ 52 _ _ _ _ _ _)
  refine AW.bipush (n := 89) (by decide +kernel) (by decide +kernel) (?_ : AW _ _ _ _ 54 _ _ _ _ _ _)
  refine AW.dup2 (by decide +kernel) rfl rfl (?_ : AW _ _ _ _ 55 _ _ _ _ _ _)
  refine AW.lald (r := 5) (by decide +kernel) rfl (fun x11 => (?_ : AW _ _ _ _ 56 _ _ _ _ _ _))
  refine AW.lload_n (i := 1) (a := x2) (by decide +kernel) rfl (?_ : AW _ _ _ _ 57 _ _ _ _ _ _)
  refine AW.lload_n (i := 3) (a := x4) (by decide +kernel) rfl (?_ : AW _ _ _ _ 58 _ _ _ _ _ _)
  refine AW.ladd (by decide +kernel) (?_ : AW _ _ _ _ 59 _ _ _ _ _ _)
  refine AW.ladd (by decide +kernel) (?_ : AW _ _ _ _ 60 _ _ _ _ _ _)
  refine AW.lastL (r := 5) (by decide +kernel) rfl (fun μ12 => (?_ : AW _ _ _ _ 61 _ _ _ _ _ _))
  refine AW.aload_n (i := 0) (a := 0) (by decide +kernel) rfl (?_ : AW _ _ _ _ 62 _ _ _ _ _ _)
  refine AW.getR (idx := 35) (ci := 9) (k := 12) (r := 0) (by decide +kernel) rfl rfl rfl (?_ : AW _ _ _ _ 65 _ _ _ _ _ _)
  refine AW.aload_n (i := 0) (a := 0) (by decide +kernel) rfl (?_ : AW _ _ _ _ 66 _ _ _ _ _ _)
  refine AW.getI (idx := 41) (ci := 9) (k := 14) (r := 0) (by decide +kernel) rfl rfl rfl (?_ : AW _ _ _ _ 69 _ _ _ _ _ _)
  refine AW.lload_n (i := 1) (a := x2) (by decide +kernel) rfl (?_ : AW _ _ _ _ 70 _ _ _ _ _ _)
  refine AW.lload_n (i := 3) (a := x4) (by decide +kernel) rfl (?_ : AW _ _ _ _ 71 _ _ _ _ _ _)
  refine AW.ladd (by decide +kernel) (?_ : AW _ _ _ _ 72 _ _ _ _ _ _)
  refine AW.lastL (r := 9) (by decide +kernel) rfl (fun μ13 => (?_ : AW _ _ _ _ 73 _ _ _ _ _ _))
  refine AW.aload_n (i := 0) (a := 0) (by decide +kernel) rfl (?_ : AW _ _ _ _ 74 _ _ _ _ _ _)
  refine AW.lload_n (i := 1) (a := x2) (by decide +kernel) rfl (?_ : AW _ _ _ _ 75 _ _ _ _ _ _)
  refine AW.lload_n (i := 3) (a := x4) (by decide +kernel) rfl (?_ : AW _ _ _ _ 76 _ _ _ _ _ _)
  refine AW.ladd (by decide +kernel) (?_ : AW _ _ _ _ 77 _ _ _ _ _ _)
  refine AW.iconst (n := -1) (by decide +kernel) (?_ : AW _ _ _ _ 78 _ _ _ _ _ _)
  refine AW.callVw (g := cf_Model_getsAll) (av := [zJ (x2 + x4), zI (-1)]) (b0 := 0) (ci := 9) (idx := 177) (n := 2) (st := []) (by decide +kernel) (fun l hl r hr => c_Model_getsAll l hl (x2 + x4) (-1) _ r hr) S_Model_wf rfl cal_Model_getsAll rfl (zw4 zm_X9_177 zi_yX9_getsAll zs_yX9_getsAll zn_X9) rfl rfl ⟨by decide, by decide, by decide, by decide⟩ (Nat.le_of_ble_eq_true rfl) (Or.inl rfl) (fun v μ14 => AW.kV (?_ : AW _ _ _ _ 81 _ _ _ _ _ _) v)
  refine AW.aload_n (i := 0) (a := 0) (by decide +kernel) rfl (?_ : AW _ _ _ _ 82 _ _ _ _ _ _)
  refine AW.getR (idx := 22) (ci := 9) (k := 7) (r := 0) (by decide +kernel) rfl rfl rfl (?_ : AW _ _ _ _ 85 _ _ _ _ _ _)
  refine AW.bipush (n := 91) (by decide +kernel) (by decide +kernel) (?_ : AW _ _ _ _ 87 _ _ _ _ _ _)
  refine AW.lconst1 (by decide +kernel) (?_ : AW _ _ _ _ 88 _ _ _ _ _ _)
  refine AW.lastL (r := 5) (by decide +kernel) rfl (fun μ16 => (?_ : AW _ _ _ _ 89 _ _ _ _ _ _))
  exact AW.retv (by decide +kernel) rfl (by decide) (by decide)
theorem c_Model_ends (l : Launch) (hl : l.stackTraces = false) (μ : ZMem) (r : ZRes) (h : F_Model_ends μ = some r) : ZC l cf_Model_ends S_Model S_Model [zR (some 0)] μ r := ZC.of hl (by decide +kernel) rfl rfl zft_X9_ok (Nat.le_of_ble_eq_true rfl) h (w_Model_ends μ)
/-! WeirLedgerModel.movedBy(II)J -/
def cf_Model_movedBy : ZCf := (yX9_movedBy, cX9_movedBy, 3, some .long, [], 3, 0, 0, zft_X9, none)
theorem cal_Model_movedBy : zCallee cf_Model_movedBy 2 := ⟨rfl, zc_yX9_movedBy, by decide, by decide, by decide +kernel⟩
def F_Model_movedBy (a1 : Int) (a2 : Int) (μ : ZMem) : Option ZRes := zC (F_Model_placeOf a1 1 μ) (zkI (fun x2 _ => zRd μ 5 92 x2 (fun x3 => zC (F_Model_placeOf a1 0 μ) (zkI (fun x5 _ => zRd μ 5 92 x5 (fun x6 => if w64 x6 = 0 then none else (some (.inr (some (zJ ((w64 (x3 * (w32 a2))).tdiv (w64 x6)))), μ))))) zX0))) zX0
set_option maxRecDepth 100000 in
theorem w_Model_movedBy (a1 : Int) (a2 : Int) (μ : ZMem) : AW cf_Model_movedBy S_Model.length S_Model S_Model 0 [(0, zR (some 0)), (1, zI a1), (2, zI a2)] [] μ 0 0 (F_Model_movedBy a1 a2 μ) := by
  unfold F_Model_movedBy
  refine AW.aload_n (i := 0) (a := 0) (by decide +kernel) rfl (?_ : AW _ _ _ _ 1 _ _ _ _ _ _)
  refine AW.getR (idx := 22) (ci := 9) (k := 7) (r := 0) (by decide +kernel) rfl rfl rfl (?_ : AW _ _ _ _ 4 _ _ _ _ _ _)
  refine AW.iload_n (i := 1) (a := a1) (by decide +kernel) rfl (?_ : AW _ _ _ _ 5 _ _ _ _ _ _)
  refine AW.iconst (n := 1) (by decide +kernel) (?_ : AW _ _ _ _ 6 _ _ _ _ _ _)
  refine AW.callP (g := cf_Model_placeOf) (av := [zI a1, zI 1]) (idx := 110) (n := 2) (st := [zR (some 5)]) (by decide +kernel) (fun l hl r hr => c_Model_placeOf l hl a1 1 _ r hr) rfl cal_Model_placeOf rfl (zw3 zm_X9_110 zt_yX9_placeOf zn_X9) ⟨by decide, by decide, by decide, by decide⟩ (Nat.le_of_ble_eq_true rfl) (fun v _ => AW.kI (fun x2 => (?_ : AW _ _ _ _ 9 _ _ _ _ _ _)) v)
  refine AW.lald (r := 5) (by decide +kernel) rfl (fun x3 => (?_ : AW _ _ _ _ 10 _ _ _ _ _ _))
  refine AW.iload_n (i := 2) (a := a2) (by decide +kernel) rfl (?_ : AW _ _ _ _ 11 _ _ _ _ _ _)
  refine AW.i2l (by decide +kernel) (?_ : AW _ _ _ _ 12 _ _ _ _ _ _)
  refine AW.lmul (by decide +kernel) (?_ : AW _ _ _ _ 13 _ _ _ _ _ _)
  refine AW.aload_n (i := 0) (a := 0) (by decide +kernel) rfl (?_ : AW _ _ _ _ 14 _ _ _ _ _ _)
  refine AW.getR (idx := 22) (ci := 9) (k := 7) (r := 0) (by decide +kernel) rfl rfl rfl (?_ : AW _ _ _ _ 17 _ _ _ _ _ _)
  refine AW.iload_n (i := 1) (a := a1) (by decide +kernel) rfl (?_ : AW _ _ _ _ 18 _ _ _ _ _ _)
  refine AW.iconst (n := 0) (by decide +kernel) (?_ : AW _ _ _ _ 19 _ _ _ _ _ _)
  refine AW.callP (g := cf_Model_placeOf) (av := [zI a1, zI 0]) (idx := 110) (n := 2) (st := [zR (some 5), zJ (x3 * (w32 a2))]) (by decide +kernel) (fun l hl r hr => c_Model_placeOf l hl a1 0 _ r hr) rfl cal_Model_placeOf rfl (zw3 zm_X9_110 zt_yX9_placeOf zn_X9) ⟨by decide, by decide, by decide, by decide⟩ (Nat.le_of_ble_eq_true rfl) (fun v _ => AW.kI (fun x5 => (?_ : AW _ _ _ _ 22 _ _ _ _ _ _)) v)
  refine AW.lald (r := 5) (by decide +kernel) rfl (fun x6 => (?_ : AW _ _ _ _ 23 _ _ _ _ _ _))
  refine AW.ldiv_if (K := fun _ => _) (by decide +kernel) (?_ : AW _ _ _ _ 24 _ _ _ _ _ _)
  exact AW.retl (by decide +kernel) rfl (by decide) (by decide)
theorem c_Model_movedBy (l : Launch) (hl : l.stackTraces = false) (a1 : Int) (a2 : Int) (μ : ZMem) (r : ZRes) (h : F_Model_movedBy a1 a2 μ = some r) : ZC l cf_Model_movedBy S_Model S_Model [zR (some 0), zI a1, zI a2] μ r := ZC.of hl (by decide +kernel) rfl rfl zft_X9_ok (Nat.le_of_ble_eq_true rfl) h (w_Model_movedBy a1 a2 μ)
/-! WeirLedgerModel.moves(III)V -/
def cf_Model_moves : ZCf := (yX9_moves, cX9_moves, 6, none, [], 4, 0, 0, zft_X9, none)
theorem cal_Model_moves : zCallee cf_Model_moves 3 := ⟨rfl, zc_yX9_moves, by decide, by decide, by decide +kernel⟩
def F_Model_moves (a1 : Int) (a2 : Int) (a3 : Int) (μ : ZMem) : Option ZRes := zC (F_Model_movedBy a1 a3 μ) (zkJ (fun x2 μ1 => zC (F_Model_placeOf a1 1 μ1) (zkI (fun x4 _ => zRd μ1 5 92 x4 (fun x5 => zWr μ1 5 92 x4 (x5 - x2) (fun μ6 => zC (F_Model_placeOf a2 1 μ6) (zkI (fun x8 _ => zRd μ6 5 92 x8 (fun x9 => zWr μ6 5 92 x8 (x9 + x2) (fun μ10 => zC (F_Model_placeOf a1 0 μ10) (zkI (fun x12 _ => zRd μ10 5 92 x12 (fun x13 => zWr μ10 5 92 x12 (x13 - (w32 a3)) (fun μ14 => zC (F_Model_placeOf a2 0 μ14) (zkI (fun x16 _ => zRd μ14 5 92 x16 (fun x17 => zWr μ14 5 92 x16 (x17 + (w32 a3)) (fun μ18 => some (.inr none, μ18))))) zX0)))) zX0)))) zX0)))) zX0)) zX0
set_option maxRecDepth 100000 in
theorem w_Model_moves (a1 : Int) (a2 : Int) (a3 : Int) (μ : ZMem) : AW cf_Model_moves S_Model.length S_Model S_Model 0 [(0, zR (some 0)), (1, zI a1), (2, zI a2), (3, zI a3)] [] μ 0 0 (F_Model_moves a1 a2 a3 μ) := by
  unfold F_Model_moves
  refine AW.aload_n (i := 0) (a := 0) (by decide +kernel) rfl (?_ : AW _ _ _ _ 1 _ _ _ _ _ _)
  refine AW.iload_n (i := 1) (a := a1) (by decide +kernel) rfl (?_ : AW _ _ _ _ 2 _ _ _ _ _ _)
  refine AW.iload_n (i := 3) (a := a3) (by decide +kernel) rfl (?_ : AW _ _ _ _ 3 _ _ _ _ _ _)
  refine AW.callVw (g := cf_Model_movedBy) (av := [zI a1, zI a3]) (b0 := 0) (ci := 9) (idx := 200) (n := 2) (st := []) (by decide +kernel) (fun l hl r hr => c_Model_movedBy l hl a1 a3 _ r hr) S_Model_wf rfl cal_Model_movedBy rfl (zw4 zm_X9_200 zi_yX9_movedBy zs_yX9_movedBy zn_X9) rfl rfl ⟨by decide, by decide, by decide, by decide⟩ (Nat.le_of_ble_eq_true rfl) (Or.inl rfl) (fun v μ1 => AW.kJ (fun x2 => (?_ : AW _ _ _ _ 6 _ _ _ _ _ _)) v)
  refine AW.lstore' (i := 4) (L' := [(4, zJ x2), (0, zR (some 0)), (1, zI a1), (2, zI a2), (3, zI a3)]) (by decide +kernel) (by decide) rfl (?_ : AW _ _ _ _ 8 _ _ _ _ _ _)
  refine AW.aload_n (i := 0) (a := 0) (by decide +kernel) rfl (?_ : AW _ _ _ _ 9 _ _ _ _ _ _)
  refine AW.getR (idx := 22) (ci := 9) (k := 7) (r := 0) (by decide +kernel) rfl rfl rfl (?_ : AW _ _ _ _ 12 _ _ _ _ _ _)
  refine AW.iload_n (i := 1) (a := a1) (by decide +kernel) rfl (?_ : AW _ _ _ _ 13 _ _ _ _ _ _)
  refine AW.iconst (n := 1) (by decide +kernel) (?_ : AW _ _ _ _ 14 _ _ _ _ _ _)
  refine AW.callP (g := cf_Model_placeOf) (av := [zI a1, zI 1]) (idx := 110) (n := 2) (st := [zR (some 5)]) (by decide +kernel) (fun l hl r hr => c_Model_placeOf l hl a1 1 _ r hr) rfl cal_Model_placeOf rfl (zw3 zm_X9_110 zt_yX9_placeOf zn_X9) ⟨by decide, by decide, by decide, by decide⟩ (Nat.le_of_ble_eq_true rfl) (fun v _ => AW.kI (fun x4 => (?_ : AW _ _ _ _ 17 _ _ _ _ _ _)) v)
  refine AW.dup2 (by decide +kernel) rfl rfl (?_ : AW _ _ _ _ 18 _ _ _ _ _ _)
  refine AW.lald (r := 5) (by decide +kernel) rfl (fun x5 => (?_ : AW _ _ _ _ 19 _ _ _ _ _ _))
  refine AW.lload (i := 4) (a := x2) (by decide +kernel) rfl (?_ : AW _ _ _ _ 21 _ _ _ _ _ _)
  refine AW.lsub (by decide +kernel) (?_ : AW _ _ _ _ 22 _ _ _ _ _ _)
  refine AW.lastL (r := 5) (by decide +kernel) rfl (fun μ6 => (?_ : AW _ _ _ _ 23 _ _ _ _ _ _))
  refine AW.aload_n (i := 0) (a := 0) (by decide +kernel) rfl (?_ : AW _ _ _ _ 24 _ _ _ _ _ _)
  refine AW.getR (idx := 22) (ci := 9) (k := 7) (r := 0) (by decide +kernel) rfl rfl rfl (?_ : AW _ _ _ _ 27 _ _ _ _ _ _)
  refine AW.iload_n (i := 2) (a := a2) (by decide +kernel) rfl (?_ : AW _ _ _ _ 28 _ _ _ _ _ _)
  refine AW.iconst (n := 1) (by decide +kernel) (?_ : AW _ _ _ _ 29 _ _ _ _ _ _)
  refine AW.callP (g := cf_Model_placeOf) (av := [zI a2, zI 1]) (idx := 110) (n := 2) (st := [zR (some 5)]) (by decide +kernel) (fun l hl r hr => c_Model_placeOf l hl a2 1 _ r hr) rfl cal_Model_placeOf rfl (zw3 zm_X9_110 zt_yX9_placeOf zn_X9) ⟨by decide, by decide, by decide, by decide⟩ (Nat.le_of_ble_eq_true rfl) (fun v _ => AW.kI (fun x8 => (?_ : AW _ _ _ _ 32 _ _ _ _ _ _)) v)
  refine AW.dup2 (by decide +kernel) rfl rfl (?_ : AW _ _ _ _ 33 _ _ _ _ _ _)
  refine AW.lald (r := 5) (by decide +kernel) rfl (fun x9 => (?_ : AW _ _ _ _ 34 _ _ _ _ _ _))
  refine AW.lload (i := 4) (a := x2) (by decide +kernel) rfl (?_ : AW _ _ _ _ 36 _ _ _ _ _ _)
  refine AW.ladd (by decide +kernel) (?_ : AW _ _ _ _ 37 _ _ _ _ _ _)
  refine AW.lastL (r := 5) (by decide +kernel) rfl (fun μ10 => (?_ : AW _ _ _ _ 38 _ _ _ _ _ _))
  refine AW.aload_n (i := 0) (a := 0) (by decide +kernel) rfl (?_ : AW _ _ _ _ 39 _ _ _ _ _ _)
  refine AW.getR (idx := 22) (ci := 9) (k := 7) (r := 0) (by decide +kernel) rfl rfl rfl (?_ : AW _ _ _ _ 42 _ _ _ _ _ _)
  refine AW.iload_n (i := 1) (a := a1) (by decide +kernel) rfl (?_ : AW _ _ _ _ 43 _ _ _ _ _ _)
  refine AW.iconst (n := 0) (by decide +kernel) (?_ : AW _ _ _ _ 44 _ _ _ _ _ _)
  refine AW.callP (g := cf_Model_placeOf) (av := [zI a1, zI 0]) (idx := 110) (n := 2) (st := [zR (some 5)]) (by decide +kernel) (fun l hl r hr => c_Model_placeOf l hl a1 0 _ r hr) rfl cal_Model_placeOf rfl (zw3 zm_X9_110 zt_yX9_placeOf zn_X9) ⟨by decide, by decide, by decide, by decide⟩ (Nat.le_of_ble_eq_true rfl) (fun v _ => AW.kI (fun x12 => (?_ : AW _ _ _ _ 47 _ _ _ _ _ _)) v)
  refine AW.dup2 (by decide +kernel) rfl rfl (?_ : AW _ _ _ _ 48 _ _ _ _ _ _)
  refine AW.lald (r := 5) (by decide +kernel) rfl (fun x13 => (?_ : AW _ _ _ _ 49 _ _ _ _ _ _))
  refine AW.iload_n (i := 3) (a := a3) (by decide +kernel) rfl (?_ : AW _ _ _ _ 50 _ _ _ _ _ _)
  refine AW.i2l (by decide +kernel) (?_ : AW _ _ _ _ 51 _ _ _ _ _ _)
  refine AW.lsub (by decide +kernel) (?_ : AW _ _ _ _ 52 _ _ _ _ _ _)
  refine AW.lastL (r := 5) (by decide +kernel) rfl (fun μ14 => (?_ : AW _ _ _ _ 53 _ _ _ _ _ _))
  refine AW.aload_n (i := 0) (a := 0) (by decide +kernel) rfl (?_ : AW _ _ _ _ 54 _ _ _ _ _ _)
  refine AW.getR (idx := 22) (ci := 9) (k := 7) (r := 0) (by decide +kernel) rfl rfl rfl (?_ : AW _ _ _ _ 57 _ _ _ _ _ _)
  refine AW.iload_n (i := 2) (a := a2) (by decide +kernel) rfl (?_ : AW _ _ _ _ 58 _ _ _ _ _ _)
  refine AW.iconst (n := 0) (by decide +kernel) (?_ : AW _ _ _ _ 59 _ _ _ _ _ _)
  refine AW.callP (g := cf_Model_placeOf) (av := [zI a2, zI 0]) (idx := 110) (n := 2) (st := [zR (some 5)]) (by decide +kernel) (fun l hl r hr => c_Model_placeOf l hl a2 0 _ r hr) rfl cal_Model_placeOf rfl (zw3 zm_X9_110 zt_yX9_placeOf zn_X9) ⟨by decide, by decide, by decide, by decide⟩ (Nat.le_of_ble_eq_true rfl) (fun v _ => AW.kI (fun x16 => (?_ : AW _ _ _ _ 62 _ _ _ _ _ _)) v)
  refine AW.dup2 (by decide +kernel) rfl rfl (?_ : AW _ _ _ _ 63 _ _ _ _ _ _)
  refine AW.lald (r := 5) (by decide +kernel) rfl (fun x17 => (?_ : AW _ _ _ _ 64 _ _ _ _ _ _))
  refine AW.iload_n (i := 3) (a := a3) (by decide +kernel) rfl (?_ : AW _ _ _ _ 65 _ _ _ _ _ _)
  refine AW.i2l (by decide +kernel) (?_ : AW _ _ _ _ 66 _ _ _ _ _ _)
  refine AW.ladd (by decide +kernel) (?_ : AW _ _ _ _ 67 _ _ _ _ _ _)
  refine AW.lastL (r := 5) (by decide +kernel) rfl (fun μ18 => (?_ : AW _ _ _ _ 68 _ _ _ _ _ _))
  exact AW.retv (by decide +kernel) rfl (by decide) (by decide)
theorem c_Model_moves (l : Launch) (hl : l.stackTraces = false) (a1 : Int) (a2 : Int) (a3 : Int) (μ : ZMem) (r : ZRes) (h : F_Model_moves a1 a2 a3 μ = some r) : ZC l cf_Model_moves S_Model S_Model [zR (some 0), zI a1, zI a2, zI a3] μ r := ZC.of hl (by decide +kernel) rfl rfl zft_X9_ok (Nat.le_of_ble_eq_true rfl) h (w_Model_moves a1 a2 a3 μ)
/-! WeirLedgerModel.does(IIII)V -/
def cf_Model_does : ZCf := (yX9_does, cX9_does, 6, none, [], 7, 0, 0, zft_X9, none)
theorem cal_Model_does : zCallee cf_Model_does 4 := ⟨rfl, zc_yX9_does, by decide, by decide, by decide +kernel⟩
def L_Model_does_144 (c3 : Int) (K : ZMem → Option ZRes) : Nat → Int → ZMem → Option ZRes
  | 0, _, _ => none
  | n + 1, v5, μ => if w32 c3 ≤ w32 v5 then (K  μ) else (zC (F_Model_quarterGoes  μ) (zkV (fun μ29 => zLet (v5 + 1) (fun x31 => L_Model_does_144 c3 K n x31 μ29))) zX0)
set_option maxRecDepth 100000 in
theorem l_Model_does_144 {c3 : Int} {K : ZMem → Option ZRes} (hK : ∀ (μ : ZMem), AW cf_Model_does S_Model.length S_Model S_Model 160 [] [] μ 0 0 (K μ)) : ∀ (n : Nat) (v5 : Int) (μ : ZMem), AW cf_Model_does S_Model.length S_Model S_Model 144 [(0, zR (some 0)), (3, zI c3), (5, zI v5)] [] μ 0 0 (L_Model_does_144 c3 K n v5 μ) := by
  intro n
  induction n with
  | zero => intro v5 μ; exact AW.noth
  | succ n ih =>
    intro v5 μ
    rw [L_Model_does_144]
    refine AW.iload (i := 5) (a := v5) (by decide +kernel) rfl (?_ : AW _ _ _ _ 146 _ _ _ _ _ _)
    refine AW.iload_n (i := 3) (a := c3) (by decide +kernel) rfl (?_ : AW _ _ _ _ 147 _ _ _ _ _ _)
    refine AW.icmp_ge (off := 13) (tgt := 160) (by decide +kernel) (by decide) (fun _ => ?_) (fun _ => ?_)
    · refine AW.sub (L' := []) [] rfl ?_
      exact hK  μ
    · refine AW.aload_n (i := 0) (a := 0) (by decide +kernel) rfl (?_ : AW _ _ _ _ 151 _ _ _ _ _ _)
      refine AW.callVw (g := cf_Model_quarterGoes) (av := []) (b0 := 0) (ci := 9) (idx := 208) (n := 0) (st := []) (by decide +kernel) (fun l hl r hr => c_Model_quarterGoes l hl  _ r hr) S_Model_wf rfl cal_Model_quarterGoes rfl (zw4 zm_X9_208 zi_yX9_quarterGoes zs_yX9_quarterGoes zn_X9) rfl rfl ⟨by decide, by decide, by decide, by decide⟩ (Nat.le_of_ble_eq_true rfl) (Or.inl rfl) (fun v μ29 => AW.kV (?_ : AW _ _ _ _ 154 _ _ _ _ _ _) v)
      refine AW.iincL (i := 5) (n := 1) (a := v5) (L' := fun x31 => [(5, zI x31), (0, zR (some 0)), (3, zI c3)]) (by decide +kernel) rfl (by decide) (fun _ => rfl) (fun x31 => (?_ : AW _ _ _ _ 157 _ _ _ _ _ _))
      refine AW.goto (off := -13) (tgt := 144) (by decide +kernel) (by decide) ?_
      refine AW.sub (L' := [(0, zR (some 0)), (3, zI c3), (5, zI x31)]) [1, 2, 0] rfl ?_
      exact ih x31 μ29
def F_Model_does (a1 : Int) (a2 : Int) (a3 : Int) (a4 : Int) (μ : ZMem) : Option ZRes := if w32 a1 = 0 then (zC (F_Model_paysAll (w32 a3) a2 μ) (zkV (fun μ2 => zC (F_Model_dealAt a2 0 μ2) (zkI (fun x5 _ => zRd μ2 5 92 x5 (fun x6 => zWr μ2 5 92 x5 (x6 + (w32 a3)) (fun μ7 => zC (F_Model_ladderAt 0 0 μ7) (zkI (fun x9 _ => zRd μ7 5 92 x9 (fun x10 => zWr μ7 5 92 x9 (x10 + (w32 a3)) (fun μ11 => zC (F_Model_isDealwise  μ11) (zkI (fun x13 μ12 => if w32 x13 = 0 then (some (.inr none, μ12)) else (zC (F_Model_ladderAt (2 + a2) 0 μ12) (zkI (fun x15 _ => zRd μ12 5 92 x15 (fun x16 => zWr μ12 5 92 x15 (x16 + (w32 a3)) (fun μ17 => some (.inr none, μ17))))) zX0))) zX0)))) zX0)))) zX0)) zX0) else (if w32 a1 = 1 then (zC (F_Model_sells a2 (w32 a3) 0 μ) (zkV (fun μ19 => some (.inr none, μ19))) zX0) else (if w32 a1 = 2 then (zC (F_Model_sells a2 (w32 a3) 1 μ) (zkV (fun μ22 => some (.inr none, μ22))) zX0) else (if w32 a1 = 3 then (zC (F_Model_dealAt a2 2 μ) (zkI (fun x26 _ => zWr μ 5 92 x26 (w32 a3) (fun μ27 => some (.inr none, μ27)))) zX0) else (if w32 a1 = 4 then (L_Model_does_144 a3 (fun μ32 => some (.inr none, μ32)) zN 0 μ) else (if w32 a1 = 5 then (zC (F_Model_placeOf a2 4 μ) (zkI (fun x35 _ => zWr μ 5 92 x35 1 (fun μ36 => zC (F_Model_placeOf a2 1 μ36) (zkI (fun x38 _ => zWr μ36 5 92 x38 0 (fun μ39 => some (.inr none, μ39)))) zX0))) zX0) else (if w32 a1 = 6 then (zC (F_Model_ends  μ) (zkV (fun μ41 => some (.inr none, μ41))) zX0) else (if w32 a1 = 7 then (zC (F_Model_moves a2 a4 a3 μ) (zkV (fun μ44 => some (.inr none, μ44))) zX0) else (zC (F_Model_ends  μ) (zkV (fun μ46 => some (.inr none, μ46))) zX0))))))))
set_option maxRecDepth 100000 in
theorem w_Model_does (a1 : Int) (a2 : Int) (a3 : Int) (a4 : Int) (μ : ZMem) : AW cf_Model_does S_Model.length S_Model S_Model 0 [(0, zR (some 0)), (1, zI a1), (2, zI a2), (3, zI a3), (4, zI a4)] [] μ 0 0 (F_Model_does a1 a2 a3 a4 μ) := by
  unfold F_Model_does
  refine AW.iload_n (i := 1) (a := a1) (by decide +kernel) rfl (?_ : AW _ _ _ _ 1 _ _ _ _ _ _)
  refine AW.tswC (dflt := 192) (lo := 0) (hi := 7) (offs := #[47, 109, 118, 127, 140, 160, 192, 183]) (len := 47) (k := 0) (off := 47) (tgt := 48) (by decide +kernel) (by decide) (by decide) rfl (by decide) (fun _ => ?_) (fun h1 => ?_)
  · refine AW.aload_n (i := 0) (a := 0) (by decide +kernel) rfl (?_ : AW _ _ _ _ 49 _ _ _ _ _ _)
    refine AW.iload_n (i := 3) (a := a3) (by decide +kernel) rfl (?_ : AW _ _ _ _ 50 _ _ _ _ _ _)
    refine AW.i2l (by decide +kernel) (?_ : AW _ _ _ _ 51 _ _ _ _ _ _)
    refine AW.iload_n (i := 2) (a := a2) (by decide +kernel) rfl (?_ : AW _ _ _ _ 52 _ _ _ _ _ _)
    refine AW.callVw (g := cf_Model_paysAll) (av := [zJ (w32 a3), zI a2]) (b0 := 0) (ci := 9) (idx := 187) (n := 2) (st := []) (by decide +kernel) (fun l hl r hr => c_Model_paysAll l hl (w32 a3) a2 _ r hr) S_Model_wf rfl cal_Model_paysAll rfl (zw4 zm_X9_187 zi_yX9_paysAll zs_yX9_paysAll zn_X9) rfl rfl ⟨by decide, by decide, by decide, by decide⟩ (Nat.le_of_ble_eq_true rfl) (Or.inl rfl) (fun v μ2 => AW.kV (?_ : AW _ _ _ _ 55 _ _ _ _ _ _) v)
    refine AW.aload_n (i := 0) (a := 0) (by decide +kernel) rfl (?_ : AW _ _ _ _ 56 _ _ _ _ _ _)
    refine AW.getR (idx := 22) (ci := 9) (k := 7) (r := 0) (by decide +kernel) rfl rfl rfl (?_ : AW _ _ _ _ 59 _ _ _ _ _ _)
    refine AW.iload_n (i := 2) (a := a2) (by decide +kernel) rfl (?_ : AW _ _ _ _ 60 _ _ _ _ _ _)
    refine AW.iconst (n := 0) (by decide +kernel) (?_ : AW _ _ _ _ 61 _ _ _ _ _ _)
    refine AW.callP (g := cf_Model_dealAt) (av := [zI a2, zI 0]) (idx := 166) (n := 2) (st := [zR (some 5)]) (by decide +kernel) (fun l hl r hr => c_Model_dealAt l hl a2 0 _ r hr) rfl cal_Model_dealAt rfl (zw3 zm_X9_166 zt_yX9_dealAt zn_X9) ⟨by decide, by decide, by decide, by decide⟩ (Nat.le_of_ble_eq_true rfl) (fun v _ => AW.kI (fun x5 => (?_ : AW _ _ _ _ 64 _ _ _ _ _ _)) v)
    refine AW.dup2 (by decide +kernel) rfl rfl (?_ : AW _ _ _ _ 65 _ _ _ _ _ _)
    refine AW.lald (r := 5) (by decide +kernel) rfl (fun x6 => (?_ : AW _ _ _ _ 66 _ _ _ _ _ _))
    refine AW.iload_n (i := 3) (a := a3) (by decide +kernel) rfl (?_ : AW _ _ _ _ 67 _ _ _ _ _ _)
    refine AW.i2l (by decide +kernel) (?_ : AW _ _ _ _ 68 _ _ _ _ _ _)
    refine AW.ladd (by decide +kernel) (?_ : AW _ _ _ _ 69 _ _ _ _ _ _)
    refine AW.lastL (r := 5) (by decide +kernel) rfl (fun μ7 => (?_ : AW _ _ _ _ 70 _ _ _ _ _ _))
    refine AW.aload_n (i := 0) (a := 0) (by decide +kernel) rfl (?_ : AW _ _ _ _ 71 _ _ _ _ _ _)
    refine AW.getR (idx := 22) (ci := 9) (k := 7) (r := 0) (by decide +kernel) rfl rfl rfl (?_ : AW _ _ _ _ 74 _ _ _ _ _ _)
    refine AW.iconst (n := 0) (by decide +kernel) (?_ : AW _ _ _ _ 75 _ _ _ _ _ _)
    refine AW.iconst (n := 0) (by decide +kernel) (?_ : AW _ _ _ _ 76 _ _ _ _ _ _)
    refine AW.callP (g := cf_Model_ladderAt) (av := [zI 0, zI 0]) (idx := 141) (n := 2) (st := [zR (some 5)]) (by decide +kernel) (fun l hl r hr => c_Model_ladderAt l hl 0 0 _ r hr) rfl cal_Model_ladderAt rfl (zw3 zm_X9_141 zt_yX9_ladderAt zn_X9) ⟨by decide, by decide, by decide, by decide⟩ (Nat.le_of_ble_eq_true rfl) (fun v _ => AW.kI (fun x9 => (?_ : AW _ _ _ _ 79 _ _ _ _ _ _)) v)
    refine AW.dup2 (by decide +kernel) rfl rfl (?_ : AW _ _ _ _ 80 _ _ _ _ _ _)
    refine AW.lald (r := 5) (by decide +kernel) rfl (fun x10 => (?_ : AW _ _ _ _ 81 _ _ _ _ _ _))
    refine AW.iload_n (i := 3) (a := a3) (by decide +kernel) rfl (?_ : AW _ _ _ _ 82 _ _ _ _ _ _)
    refine AW.i2l (by decide +kernel) (?_ : AW _ _ _ _ 83 _ _ _ _ _ _)
    refine AW.ladd (by decide +kernel) (?_ : AW _ _ _ _ 84 _ _ _ _ _ _)
    refine AW.lastL (r := 5) (by decide +kernel) rfl (fun μ11 => (?_ : AW _ _ _ _ 85 _ _ _ _ _ _))
    refine AW.aload_n (i := 0) (a := 0) (by decide +kernel) rfl (?_ : AW _ _ _ _ 86 _ _ _ _ _ _)
    refine AW.callVw (g := cf_Model_isDealwise) (av := []) (b0 := 0) (ci := 9) (idx := 173) (n := 0) (st := []) (by decide +kernel) (fun l hl r hr => c_Model_isDealwise l hl  _ r hr) S_Model_wf rfl cal_Model_isDealwise rfl (zw4 zm_X9_173 zi_yX9_isDealwise zs_yX9_isDealwise zn_X9) rfl rfl ⟨by decide, by decide, by decide, by decide⟩ (Nat.le_of_ble_eq_true rfl) (Or.inl rfl) (fun v μ12 => AW.kI (fun x13 => (?_ : AW _ _ _ _ 89 _ _ _ _ _ _)) v)
    refine AW.if_eq (off := 20) (tgt := 109) (by decide +kernel) (by decide) (fun _ => ?_) (fun _ => ?_)
    · exact AW.retv (by decide +kernel) rfl (by decide) (by decide)
    · refine AW.aload_n (i := 0) (a := 0) (by decide +kernel) rfl (?_ : AW _ _ _ _ 93 _ _ _ _ _ _)
      refine AW.getR (idx := 22) (ci := 9) (k := 7) (r := 0) (by decide +kernel) rfl rfl rfl (?_ : AW _ _ _ _ 96 _ _ _ _ _ _)
      refine AW.iconst (n := 2) (by decide +kernel) (?_ : AW _ _ _ _ 97 _ _ _ _ _ _)
      refine AW.iload_n (i := 2) (a := a2) (by decide +kernel) rfl (?_ : AW _ _ _ _ 98 _ _ _ _ _ _)
      refine AW.iadd (by decide +kernel) (?_ : AW _ _ _ _ 99 _ _ _ _ _ _)
      refine AW.iconst (n := 0) (by decide +kernel) (?_ : AW _ _ _ _ 100 _ _ _ _ _ _)
      refine AW.callP (g := cf_Model_ladderAt) (av := [zI (2 + a2), zI 0]) (idx := 141) (n := 2) (st := [zR (some 5)]) (by decide +kernel) (fun l hl r hr => c_Model_ladderAt l hl (2 + a2) 0 _ r hr) rfl cal_Model_ladderAt rfl (zw3 zm_X9_141 zt_yX9_ladderAt zn_X9) ⟨by decide, by decide, by decide, by decide⟩ (Nat.le_of_ble_eq_true rfl) (fun v _ => AW.kI (fun x15 => (?_ : AW _ _ _ _ 103 _ _ _ _ _ _)) v)
      refine AW.dup2 (by decide +kernel) rfl rfl (?_ : AW _ _ _ _ 104 _ _ _ _ _ _)
      refine AW.lald (r := 5) (by decide +kernel) rfl (fun x16 => (?_ : AW _ _ _ _ 105 _ _ _ _ _ _))
      refine AW.iload_n (i := 3) (a := a3) (by decide +kernel) rfl (?_ : AW _ _ _ _ 106 _ _ _ _ _ _)
      refine AW.i2l (by decide +kernel) (?_ : AW _ _ _ _ 107 _ _ _ _ _ _)
      refine AW.ladd (by decide +kernel) (?_ : AW _ _ _ _ 108 _ _ _ _ _ _)
      refine AW.lastL (r := 5) (by decide +kernel) rfl (fun μ17 => (?_ : AW _ _ _ _ 109 _ _ _ _ _ _))
      exact AW.retv (by decide +kernel) rfl (by decide) (by decide)
  refine AW.tswC (dflt := 192) (lo := 0) (hi := 7) (offs := #[47, 109, 118, 127, 140, 160, 192, 183]) (len := 47) (k := 1) (off := 109) (tgt := 110) (by decide +kernel) (by decide) (by decide) rfl (by decide) (fun _ => ?_) (fun h18 => ?_)
  · refine AW.aload_n (i := 0) (a := 0) (by decide +kernel) rfl (?_ : AW _ _ _ _ 111 _ _ _ _ _ _)
    refine AW.iload_n (i := 2) (a := a2) (by decide +kernel) rfl (?_ : AW _ _ _ _ 112 _ _ _ _ _ _)
    refine AW.iload_n (i := 3) (a := a3) (by decide +kernel) rfl (?_ : AW _ _ _ _ 113 _ _ _ _ _ _)
    refine AW.i2l (by decide +kernel) (?_ : AW _ _ _ _ 114 _ _ _ _ _ _)
    refine AW.iconst (n := 0) (by decide +kernel) (?_ : AW _ _ _ _ 115 _ _ _ _ _ _)
    refine AW.callVw (g := cf_Model_sells) (av := [zI a2, zJ (w32 a3), zI 0]) (b0 := 0) (ci := 9) (idx := 204) (n := 3) (st := []) (by decide +kernel) (fun l hl r hr => c_Model_sells l hl a2 (w32 a3) 0 _ r hr) S_Model_wf rfl cal_Model_sells rfl (zw4 zm_X9_204 zi_yX9_sells zs_yX9_sells zn_X9) rfl rfl ⟨by decide, by decide, by decide, by decide⟩ (Nat.le_of_ble_eq_true rfl) (Or.inl rfl) (fun v μ19 => AW.kV (?_ : AW _ _ _ _ 118 _ _ _ _ _ _) v)
    exact AW.retv (by decide +kernel) rfl (by decide) (by decide)
  refine AW.tswC (dflt := 192) (lo := 0) (hi := 7) (offs := #[47, 109, 118, 127, 140, 160, 192, 183]) (len := 47) (k := 2) (off := 118) (tgt := 119) (by decide +kernel) (by decide) (by decide) rfl (by decide) (fun _ => ?_) (fun h21 => ?_)
  · refine AW.aload_n (i := 0) (a := 0) (by decide +kernel) rfl (?_ : AW _ _ _ _ 120 _ _ _ _ _ _)
    refine AW.iload_n (i := 2) (a := a2) (by decide +kernel) rfl (?_ : AW _ _ _ _ 121 _ _ _ _ _ _)
    refine AW.iload_n (i := 3) (a := a3) (by decide +kernel) rfl (?_ : AW _ _ _ _ 122 _ _ _ _ _ _)
    refine AW.i2l (by decide +kernel) (?_ : AW _ _ _ _ 123 _ _ _ _ _ _)
    refine AW.iconst (n := 1) (by decide +kernel) (?_ : AW _ _ _ _ 124 _ _ _ _ _ _)
    refine AW.callVw (g := cf_Model_sells) (av := [zI a2, zJ (w32 a3), zI 1]) (b0 := 0) (ci := 9) (idx := 204) (n := 3) (st := []) (by decide +kernel) (fun l hl r hr => c_Model_sells l hl a2 (w32 a3) 1 _ r hr) S_Model_wf rfl cal_Model_sells rfl (zw4 zm_X9_204 zi_yX9_sells zs_yX9_sells zn_X9) rfl rfl ⟨by decide, by decide, by decide, by decide⟩ (Nat.le_of_ble_eq_true rfl) (Or.inl rfl) (fun v μ22 => AW.kV (?_ : AW _ _ _ _ 127 _ _ _ _ _ _) v)
    exact AW.retv (by decide +kernel) rfl (by decide) (by decide)
  refine AW.tswC (dflt := 192) (lo := 0) (hi := 7) (offs := #[47, 109, 118, 127, 140, 160, 192, 183]) (len := 47) (k := 3) (off := 127) (tgt := 128) (by decide +kernel) (by decide) (by decide) rfl (by decide) (fun _ => ?_) (fun h24 => ?_)
  · refine AW.aload_n (i := 0) (a := 0) (by decide +kernel) rfl (?_ : AW _ _ _ _ 129 _ _ _ _ _ _)
    refine AW.getR (idx := 22) (ci := 9) (k := 7) (r := 0) (by decide +kernel) rfl rfl rfl (?_ : AW _ _ _ _ 132 _ _ _ _ _ _)
    refine AW.iload_n (i := 2) (a := a2) (by decide +kernel) rfl (?_ : AW _ _ _ _ 133 _ _ _ _ _ _)
    refine AW.iconst (n := 2) (by decide +kernel) (?_ : AW _ _ _ _ 134 _ _ _ _ _ _)
    refine AW.callP (g := cf_Model_dealAt) (av := [zI a2, zI 2]) (idx := 166) (n := 2) (st := [zR (some 5)]) (by decide +kernel) (fun l hl r hr => c_Model_dealAt l hl a2 2 _ r hr) rfl cal_Model_dealAt rfl (zw3 zm_X9_166 zt_yX9_dealAt zn_X9) ⟨by decide, by decide, by decide, by decide⟩ (Nat.le_of_ble_eq_true rfl) (fun v _ => AW.kI (fun x26 => (?_ : AW _ _ _ _ 137 _ _ _ _ _ _)) v)
    refine AW.iload_n (i := 3) (a := a3) (by decide +kernel) rfl (?_ : AW _ _ _ _ 138 _ _ _ _ _ _)
    refine AW.i2l (by decide +kernel) (?_ : AW _ _ _ _ 139 _ _ _ _ _ _)
    refine AW.lastL (r := 5) (by decide +kernel) rfl (fun μ27 => (?_ : AW _ _ _ _ 140 _ _ _ _ _ _))
    exact AW.retv (by decide +kernel) rfl (by decide) (by decide)
  refine AW.tswC (dflt := 192) (lo := 0) (hi := 7) (offs := #[47, 109, 118, 127, 140, 160, 192, 183]) (len := 47) (k := 4) (off := 140) (tgt := 141) (by decide +kernel) (by decide) (by decide) rfl (by decide) (fun _ => ?_) (fun h28 => ?_)
  · refine AW.iconst (n := 0) (by decide +kernel) (?_ : AW _ _ _ _ 142 _ _ _ _ _ _)
    refine AW.istore' (i := 5) (L' := [(5, zI 0), (0, zR (some 0)), (1, zI a1), (2, zI a2), (3, zI a3), (4, zI a4)]) (by decide +kernel) (by decide) rfl (?_ : AW _ _ _ _ 144 _ _ _ _ _ _)
    refine AW.sub (L' := [(0, zR (some 0)), (3, zI a3), (5, zI 0)]) [1, 4, 0] rfl ?_
    refine l_Model_does_144 (fun μ32 => ?_) zN _ _
    exact AW.retv (by decide +kernel) rfl (by decide) (by decide)
  refine AW.tswC (dflt := 192) (lo := 0) (hi := 7) (offs := #[47, 109, 118, 127, 140, 160, 192, 183]) (len := 47) (k := 5) (off := 160) (tgt := 161) (by decide +kernel) (by decide) (by decide) rfl (by decide) (fun _ => ?_) (fun h33 => ?_)
  · refine AW.aload_n (i := 0) (a := 0) (by decide +kernel) rfl (?_ : AW _ _ _ _ 162 _ _ _ _ _ _)
    refine AW.getR (idx := 22) (ci := 9) (k := 7) (r := 0) (by decide +kernel) rfl rfl rfl (?_ : AW _ _ _ _ 165 _ _ _ _ _ _)
    refine AW.iload_n (i := 2) (a := a2) (by decide +kernel) rfl (?_ : AW _ _ _ _ 166 _ _ _ _ _ _)
    refine AW.iconst (n := 4) (by decide +kernel) (?_ : AW _ _ _ _ 167 _ _ _ _ _ _)
    refine AW.callP (g := cf_Model_placeOf) (av := [zI a2, zI 4]) (idx := 110) (n := 2) (st := [zR (some 5)]) (by decide +kernel) (fun l hl r hr => c_Model_placeOf l hl a2 4 _ r hr) rfl cal_Model_placeOf rfl (zw3 zm_X9_110 zt_yX9_placeOf zn_X9) ⟨by decide, by decide, by decide, by decide⟩ (Nat.le_of_ble_eq_true rfl) (fun v _ => AW.kI (fun x35 => (?_ : AW _ _ _ _ 170 _ _ _ _ _ _)) v)
    refine AW.lconst1 (by decide +kernel) (?_ : AW _ _ _ _ 171 _ _ _ _ _ _)
    refine AW.lastL (r := 5) (by decide +kernel) rfl (fun μ36 => (?_ : AW _ _ _ _ 172 _ _ _ _ _ _))
    refine AW.aload_n (i := 0) (a := 0) (by decide +kernel) rfl (?_ : AW _ _ _ _ 173 _ _ _ _ _ _)
    refine AW.getR (idx := 22) (ci := 9) (k := 7) (r := 0) (by decide +kernel) rfl rfl rfl (?_ : AW _ _ _ _ 176 _ _ _ _ _ _)
    refine AW.iload_n (i := 2) (a := a2) (by decide +kernel) rfl (?_ : AW _ _ _ _ 177 _ _ _ _ _ _)
    refine AW.iconst (n := 1) (by decide +kernel) (?_ : AW _ _ _ _ 178 _ _ _ _ _ _)
    refine AW.callP (g := cf_Model_placeOf) (av := [zI a2, zI 1]) (idx := 110) (n := 2) (st := [zR (some 5)]) (by decide +kernel) (fun l hl r hr => c_Model_placeOf l hl a2 1 _ r hr) rfl cal_Model_placeOf rfl (zw3 zm_X9_110 zt_yX9_placeOf zn_X9) ⟨by decide, by decide, by decide, by decide⟩ (Nat.le_of_ble_eq_true rfl) (fun v _ => AW.kI (fun x38 => (?_ : AW _ _ _ _ 181 _ _ _ _ _ _)) v)
    refine AW.lconst0 (by decide +kernel) (?_ : AW _ _ _ _ 182 _ _ _ _ _ _)
    refine AW.lastL (r := 5) (by decide +kernel) rfl (fun μ39 => (?_ : AW _ _ _ _ 183 _ _ _ _ _ _))
    exact AW.retv (by decide +kernel) rfl (by decide) (by decide)
  refine AW.tswC (dflt := 192) (lo := 0) (hi := 7) (offs := #[47, 109, 118, 127, 140, 160, 192, 183]) (len := 47) (k := 6) (off := 192) (tgt := 193) (by decide +kernel) (by decide) (by decide) rfl (by decide) (fun _ => ?_) (fun h40 => ?_)
  · refine AW.aload_n (i := 0) (a := 0) (by decide +kernel) rfl (?_ : AW _ _ _ _ 194 _ _ _ _ _ _)
    refine AW.callVw (g := cf_Model_ends) (av := []) (b0 := 0) (ci := 9) (idx := 215) (n := 0) (st := []) (by decide +kernel) (fun l hl r hr => c_Model_ends l hl  _ r hr) S_Model_wf rfl cal_Model_ends rfl (zw4 zm_X9_215 zi_yX9_ends zs_yX9_ends zn_X9) rfl rfl ⟨by decide, by decide, by decide, by decide⟩ (Nat.le_of_ble_eq_true rfl) (Or.inl rfl) (fun v μ41 => AW.kV (?_ : AW _ _ _ _ 197 _ _ _ _ _ _) v)
    exact AW.retv (by decide +kernel) rfl (by decide) (by decide)
  refine AW.tswC (dflt := 192) (lo := 0) (hi := 7) (offs := #[47, 109, 118, 127, 140, 160, 192, 183]) (len := 47) (k := 7) (off := 183) (tgt := 184) (by decide +kernel) (by decide) (by decide) rfl (by decide) (fun _ => ?_) (fun h43 => ?_)
  · refine AW.aload_n (i := 0) (a := 0) (by decide +kernel) rfl (?_ : AW _ _ _ _ 185 _ _ _ _ _ _)
    refine AW.iload_n (i := 2) (a := a2) (by decide +kernel) rfl (?_ : AW _ _ _ _ 186 _ _ _ _ _ _)
    refine AW.iload (i := 4) (a := a4) (by decide +kernel) rfl (?_ : AW _ _ _ _ 188 _ _ _ _ _ _)
    refine AW.iload_n (i := 3) (a := a3) (by decide +kernel) rfl (?_ : AW _ _ _ _ 189 _ _ _ _ _ _)
    refine AW.callVw (g := cf_Model_moves) (av := [zI a2, zI a4, zI a3]) (b0 := 0) (ci := 9) (idx := 211) (n := 3) (st := []) (by decide +kernel) (fun l hl r hr => c_Model_moves l hl a2 a4 a3 _ r hr) S_Model_wf rfl cal_Model_moves rfl (zw4 zm_X9_211 zi_yX9_moves zs_yX9_moves zn_X9) rfl rfl ⟨by decide, by decide, by decide, by decide⟩ (Nat.le_of_ble_eq_true rfl) (Or.inl rfl) (fun v μ44 => AW.kV (?_ : AW _ _ _ _ 192 _ _ _ _ _ _) v)
    exact AW.retv (by decide +kernel) rfl (by decide) (by decide)
  refine AW.tswD (dflt := 192) (lo := 0) (hi := 7) (offs := #[47, 109, 118, 127, 140, 160, 192, 183]) (len := 47) (tgt := 193) (by decide +kernel) (by omega) (by decide) ?_
  refine AW.aload_n (i := 0) (a := 0) (by decide +kernel) rfl (?_ : AW _ _ _ _ 194 _ _ _ _ _ _)
  refine AW.callVw (g := cf_Model_ends) (av := []) (b0 := 0) (ci := 9) (idx := 215) (n := 0) (st := []) (by decide +kernel) (fun l hl r hr => c_Model_ends l hl  _ r hr) S_Model_wf rfl cal_Model_ends rfl (zw4 zm_X9_215 zi_yX9_ends zs_yX9_ends zn_X9) rfl rfl ⟨by decide, by decide, by decide, by decide⟩ (Nat.le_of_ble_eq_true rfl) (Or.inl rfl) (fun v μ46 => AW.kV (?_ : AW _ _ _ _ 197 _ _ _ _ _ _) v)
  exact AW.retv (by decide +kernel) rfl (by decide) (by decide)
theorem c_Model_does (l : Launch) (hl : l.stackTraces = false) (a1 : Int) (a2 : Int) (a3 : Int) (a4 : Int) (μ : ZMem) (r : ZRes) (h : F_Model_does a1 a2 a3 a4 μ = some r) : ZC l cf_Model_does S_Model S_Model [zR (some 0), zI a1, zI a2, zI a3, zI a4] μ r := ZC.of hl (by decide +kernel) rfl rfl zft_X9_ok (Nat.le_of_ble_eq_true rfl) h (w_Model_does a1 a2 a3 a4 μ)
/-! WeirLedgerModel.doesAgain(II)V -/
def cf_Model_doesAgain : ZCf := (yX9_doesAgain, cX9_doesAgain, 3, none, [], 8, 0, 0, zft_X9, none)
theorem cal_Model_doesAgain : zCallee cf_Model_doesAgain 2 := ⟨rfl, zc_yX9_doesAgain, by decide, by decide, by decide +kernel⟩
def F_Model_doesAgain (a1 : Int) (a2 : Int) (μ : ZMem) : Option ZRes := zLet (zUp μ 0 14 a2) (fun μ1 => zWr μ1 9 61 a2 0 (fun μ2 => zWr μ2 10 61 a2 0 (fun μ3 => zRd μ3 8 300 (5 * a1) (fun x4 => zRd μ3 8 300 ((5 * a1) + 1) (fun x5 => zRd μ3 8 300 ((5 * a1) + 2) (fun x6 => zRd μ3 8 300 ((5 * a1) + 4) (fun x7 => zC (F_Model_does x4 x5 x6 x7 μ3) (zkV (fun μ8 => zLet (zUp μ8 0 14 60) (fun μ10 => some (.inr none, μ10)))) zX0)))))))
set_option maxRecDepth 100000 in
theorem w_Model_doesAgain (a1 : Int) (a2 : Int) (μ : ZMem) : AW cf_Model_doesAgain S_Model.length S_Model S_Model 0 [(0, zR (some 0)), (1, zI a1), (2, zI a2)] [] μ 0 0 (F_Model_doesAgain a1 a2 μ) := by
  unfold F_Model_doesAgain
  refine AW.aload_n (i := 0) (a := 0) (by decide +kernel) rfl (?_ : AW _ _ _ _ 1 _ _ _ _ _ _)
  refine AW.iload_n (i := 2) (a := a2) (by decide +kernel) rfl (?_ : AW _ _ _ _ 2 _ _ _ _ _ _)
  refine AW.putiL (idx := 41) (ci := 9) (k := 14) (r := 0) (by decide +kernel) rfl rfl rfl (fun μ1 => (?_ : AW _ _ _ _ 5 _ _ _ _ _ _))
  refine AW.aload_n (i := 0) (a := 0) (by decide +kernel) rfl (?_ : AW _ _ _ _ 6 _ _ _ _ _ _)
  refine AW.getR (idx := 35) (ci := 9) (k := 12) (r := 0) (by decide +kernel) rfl rfl rfl (?_ : AW _ _ _ _ 9 _ _ _ _ _ _)
  refine AW.iload_n (i := 2) (a := a2) (by decide +kernel) rfl (?_ : AW _ _ _ _ 10 _ _ _ _ _ _)
  refine AW.lconst0 (by decide +kernel) (?_ : AW _ _ _ _ 11 _ _ _ _ _ _)
  refine AW.lastL (r := 9) (by decide +kernel) rfl (fun μ2 => (?_ : AW _ _ _ _ 12 _ _ _ _ _ _))
  refine AW.aload_n (i := 0) (a := 0) (by decide +kernel) rfl (?_ : AW _ _ _ _ 13 _ _ _ _ _ _)
  refine AW.getR (idx := 38) (ci := 9) (k := 13) (r := 0) (by decide +kernel) rfl rfl rfl (?_ : AW _ _ _ _ 16 _ _ _ _ _ _)
  refine AW.iload_n (i := 2) (a := a2) (by decide +kernel) rfl (?_ : AW _ _ _ _ 17 _ _ _ _ _ _)
  refine AW.lconst0 (by decide +kernel) (?_ : AW _ _ _ _ 18 _ _ _ _ _ _)
  refine AW.lastL (r := 10) (by decide +kernel) rfl (fun μ3 => (?_ : AW _ _ _ _ 19 _ _ _ _ _ _))
  refine AW.aload_n (i := 0) (a := 0) (by decide +kernel) rfl (?_ : AW _ _ _ _ 20 _ _ _ _ _ _)
  refine AW.aload_n (i := 0) (a := 0) (by decide +kernel) rfl (?_ : AW _ _ _ _ 21 _ _ _ _ _ _)
  refine AW.getR (idx := 32) (ci := 9) (k := 10) (r := 0) (by decide +kernel) rfl rfl rfl (?_ : AW _ _ _ _ 24 _ _ _ _ _ _)
  refine AW.iconst (n := 5) (by decide +kernel) (?_ : AW _ _ _ _ 25 _ _ _ _ _ _)
  refine AW.iload_n (i := 1) (a := a1) (by decide +kernel) rfl (?_ : AW _ _ _ _ 26 _ _ _ _ _ _)
  refine AW.imul (by decide +kernel) (?_ : AW _ _ _ _ 27 _ _ _ _ _ _)
  refine AW.iald (r := 8) (by decide +kernel) rfl (fun x4 => (?_ : AW _ _ _ _ 28 _ _ _ _ _ _))
  refine AW.aload_n (i := 0) (a := 0) (by decide +kernel) rfl (?_ : AW _ _ _ _ 29 _ _ _ _ _ _)
  refine AW.getR (idx := 32) (ci := 9) (k := 10) (r := 0) (by decide +kernel) rfl rfl rfl (?_ : AW _ _ _ _ 32 _ _ _ _ _ _)
  refine AW.iconst (n := 5) (by decide +kernel) (?_ : AW _ _ _ _ 33 _ _ _ _ _ _)
  refine AW.iload_n (i := 1) (a := a1) (by decide +kernel) rfl (?_ : AW _ _ _ _ 34 _ _ _ _ _ _)
  refine AW.imul (by decide +kernel) (?_ : AW _ _ _ _ 35 _ _ _ _ _ _)
  refine AW.iconst (n := 1) (by decide +kernel) (?_ : AW _ _ _ _ 36 _ _ _ _ _ _)
  refine AW.iadd (by decide +kernel) (?_ : AW _ _ _ _ 37 _ _ _ _ _ _)
  refine AW.iald (r := 8) (by decide +kernel) rfl (fun x5 => (?_ : AW _ _ _ _ 38 _ _ _ _ _ _))
  refine AW.aload_n (i := 0) (a := 0) (by decide +kernel) rfl (?_ : AW _ _ _ _ 39 _ _ _ _ _ _)
  refine AW.getR (idx := 32) (ci := 9) (k := 10) (r := 0) (by decide +kernel) rfl rfl rfl (?_ : AW _ _ _ _ 42 _ _ _ _ _ _)
  refine AW.iconst (n := 5) (by decide +kernel) (?_ : AW _ _ _ _ 43 _ _ _ _ _ _)
  refine AW.iload_n (i := 1) (a := a1) (by decide +kernel) rfl (?_ : AW _ _ _ _ 44 _ _ _ _ _ _)
  refine AW.imul (by decide +kernel) (?_ : AW _ _ _ _ 45 _ _ _ _ _ _)
  refine AW.iconst (n := 2) (by decide +kernel) (?_ : AW _ _ _ _ 46 _ _ _ _ _ _)
  refine AW.iadd (by decide +kernel) (?_ : AW _ _ _ _ 47 _ _ _ _ _ _)
  refine AW.iald (r := 8) (by decide +kernel) rfl (fun x6 => (?_ : AW _ _ _ _ 48 _ _ _ _ _ _))
  refine AW.aload_n (i := 0) (a := 0) (by decide +kernel) rfl (?_ : AW _ _ _ _ 49 _ _ _ _ _ _)
  refine AW.getR (idx := 32) (ci := 9) (k := 10) (r := 0) (by decide +kernel) rfl rfl rfl (?_ : AW _ _ _ _ 52 _ _ _ _ _ _)
  refine AW.iconst (n := 5) (by decide +kernel) (?_ : AW _ _ _ _ 53 _ _ _ _ _ _)
  refine AW.iload_n (i := 1) (a := a1) (by decide +kernel) rfl (?_ : AW _ _ _ _ 54 _ _ _ _ _ _)
  refine AW.imul (by decide +kernel) (?_ : AW _ _ _ _ 55 _ _ _ _ _ _)
  refine AW.iconst (n := 4) (by decide +kernel) (?_ : AW _ _ _ _ 56 _ _ _ _ _ _)
  refine AW.iadd (by decide +kernel) (?_ : AW _ _ _ _ 57 _ _ _ _ _ _)
  refine AW.iald (r := 8) (by decide +kernel) rfl (fun x7 => (?_ : AW _ _ _ _ 58 _ _ _ _ _ _))
  refine AW.callVw (g := cf_Model_does) (av := [zI x4, zI x5, zI x6, zI x7]) (b0 := 0) (ci := 9) (idx := 123) (n := 4) (st := []) (by decide +kernel) (fun l hl r hr => c_Model_does l hl x4 x5 x6 x7 _ r hr) S_Model_wf rfl cal_Model_does rfl (zw4 zm_X9_123 zi_yX9_does zs_yX9_does zn_X9) rfl rfl ⟨by decide, by decide, by decide, by decide⟩ (Nat.le_of_ble_eq_true rfl) (Or.inl rfl) (fun v μ8 => AW.kV (?_ : AW _ _ _ _ 61 _ _ _ _ _ _) v)
  refine AW.aload_n (i := 0) (a := 0) (by decide +kernel) rfl (?_ : AW _ _ _ _ 62 _ _ _ _ _ _)
  refine AW.bipush (n := 60) (by decide +kernel) (by decide +kernel) (?_ : AW _ _ _ _ 64 _ _ _ _ _ _)
  refine AW.putiL (idx := 41) (ci := 9) (k := 14) (r := 0) (by decide +kernel) rfl rfl rfl (fun μ10 => (?_ : AW _ _ _ _ 67 _ _ _ _ _ _))
  exact AW.retv (by decide +kernel) rfl (by decide) (by decide)
theorem c_Model_doesAgain (l : Launch) (hl : l.stackTraces = false) (a1 : Int) (a2 : Int) (μ : ZMem) (r : ZRes) (h : F_Model_doesAgain a1 a2 μ = some r) : ZC l cf_Model_doesAgain S_Model S_Model [zR (some 0), zI a1, zI a2] μ r := ZC.of hl (by decide +kernel) rfl rfl zft_X9_ok (Nat.le_of_ble_eq_true rfl) h (w_Model_doesAgain a1 a2 μ)
/-! WeirLedgerModel.worksOut()V -/
def cf_Model_worksOut : ZCf := (yX9_worksOut, cX9_worksOut, 2, none, [], 9, 0, 0, zft_X9, none)
theorem cal_Model_worksOut : zCallee cf_Model_worksOut 0 := ⟨rfl, zc_yX9_worksOut, by decide, by decide, by decide +kernel⟩
def L_Model_worksOut_6 (K : ZMem → Option ZRes) : Nat → Int → ZMem → Option ZRes
  | 0, _, _ => none
  | n + 1, v1, μ => if w32 (μ 0 11) ≤ w32 v1 then (K  μ) else (zC (F_Model_doesAgain v1 v1 μ) (zkV (fun μ3 => zLet (v1 + 1) (fun x5 => L_Model_worksOut_6 K n x5 μ3))) zX0)
set_option maxRecDepth 100000 in
theorem l_Model_worksOut_6 {K : ZMem → Option ZRes} (hK : ∀ (μ : ZMem), AW cf_Model_worksOut S_Model.length S_Model S_Model 26 [] [] μ 0 0 (K μ)) : ∀ (n : Nat) (v1 : Int) (μ : ZMem), AW cf_Model_worksOut S_Model.length S_Model S_Model 6 [(0, zR (some 0)), (1, zI v1)] [] μ 0 0 (L_Model_worksOut_6 K n v1 μ) := by
  intro n
  induction n with
  | zero => intro v1 μ; exact AW.noth
  | succ n ih =>
    intro v1 μ
    rw [L_Model_worksOut_6]
    refine AW.iload_n (i := 1) (a := v1) (by decide +kernel) rfl (?_ : AW _ _ _ _ 7 _ _ _ _ _ _)
    refine AW.aload_n (i := 0) (a := 0) (by decide +kernel) rfl (?_ : AW _ _ _ _ 8 _ _ _ _ _ _)
    refine AW.getI (idx := 116) (ci := 9) (k := 11) (r := 0) (by decide +kernel) rfl rfl rfl (?_ : AW _ _ _ _ 11 _ _ _ _ _ _)
    refine AW.icmp_ge (off := 15) (tgt := 26) (by decide +kernel) (by decide) (fun _ => ?_) (fun _ => ?_)
    · refine AW.sub (L' := []) [] rfl ?_
      exact hK  μ
    · refine AW.aload_n (i := 0) (a := 0) (by decide +kernel) rfl (?_ : AW _ _ _ _ 15 _ _ _ _ _ _)
      refine AW.iload_n (i := 1) (a := v1) (by decide +kernel) rfl (?_ : AW _ _ _ _ 16 _ _ _ _ _ _)
      refine AW.iload_n (i := 1) (a := v1) (by decide +kernel) rfl (?_ : AW _ _ _ _ 17 _ _ _ _ _ _)
      refine AW.callVw (g := cf_Model_doesAgain) (av := [zI v1, zI v1]) (b0 := 0) (ci := 9) (idx := 119) (n := 2) (st := []) (by decide +kernel) (fun l hl r hr => c_Model_doesAgain l hl v1 v1 _ r hr) S_Model_wf rfl cal_Model_doesAgain rfl (zw4 zm_X9_119 zi_yX9_doesAgain zs_yX9_doesAgain zn_X9) rfl rfl ⟨by decide, by decide, by decide, by decide⟩ (Nat.le_of_ble_eq_true rfl) (Or.inl rfl) (fun v μ3 => AW.kV (?_ : AW _ _ _ _ 20 _ _ _ _ _ _) v)
      refine AW.iincL (i := 1) (n := 1) (a := v1) (L' := fun x5 => [(1, zI x5), (0, zR (some 0))]) (by decide +kernel) rfl (by decide) (fun _ => rfl) (fun x5 => (?_ : AW _ _ _ _ 23 _ _ _ _ _ _))
      refine AW.goto (off := -17) (tgt := 6) (by decide +kernel) (by decide) ?_
      refine AW.sub (L' := [(0, zR (some 0)), (1, zI x5)]) [1, 0] rfl ?_
      exact ih x5 μ3
def F_Model_worksOut (μ : ZMem) : Option ZRes := zC (F_Model_anew  μ) (zkV (fun μ1 => L_Model_worksOut_6 (fun μ6 => some (.inr none, μ6)) zN 0 μ1)) zX0
set_option maxRecDepth 100000 in
theorem w_Model_worksOut (μ : ZMem) : AW cf_Model_worksOut S_Model.length S_Model S_Model 0 [(0, zR (some 0))] [] μ 0 0 (F_Model_worksOut μ) := by
  unfold F_Model_worksOut
  refine AW.aload_n (i := 0) (a := 0) (by decide +kernel) rfl (?_ : AW _ _ _ _ 1 _ _ _ _ _ _)
  refine AW.callVw (g := cf_Model_anew) (av := []) (b0 := 0) (ci := 9) (idx := 90) (n := 0) (st := []) (by decide +kernel) (fun l hl r hr => c_Model_anew l hl  _ r hr) S_Model_wf rfl cal_Model_anew rfl (zw4 zm_X9_90 zi_yX9_anew zs_yX9_anew zn_X9) rfl rfl ⟨by decide, by decide, by decide, by decide⟩ (Nat.le_of_ble_eq_true rfl) (Or.inl rfl) (fun v μ1 => AW.kV (?_ : AW _ _ _ _ 4 _ _ _ _ _ _) v)
  refine AW.iconst (n := 0) (by decide +kernel) (?_ : AW _ _ _ _ 5 _ _ _ _ _ _)
  refine AW.istore_n' (i := 1) (L' := [(1, zI 0), (0, zR (some 0))]) (by decide +kernel) (by decide) rfl (?_ : AW _ _ _ _ 6 _ _ _ _ _ _)
  refine AW.sub (L' := [(0, zR (some 0)), (1, zI 0)]) [1, 0] rfl ?_
  refine l_Model_worksOut_6 (fun μ6 => ?_) zN _ _
  exact AW.retv (by decide +kernel) rfl (by decide) (by decide)
theorem c_Model_worksOut (l : Launch) (hl : l.stackTraces = false) (μ : ZMem) (r : ZRes) (h : F_Model_worksOut μ = some r) : ZC l cf_Model_worksOut S_Model S_Model [zR (some 0)] μ r := ZC.of hl (by decide +kernel) rfl rfl zft_X9_ok (Nat.le_of_ble_eq_true rfl) h (w_Model_worksOut μ)
/-! WeirLedgerModel.putsAside()V -/
def cf_Model_putsAside : ZCf := (yX9_putsAside, cX9_putsAside, 2, none, [], 2, 0, 0, zft_X9, none)
theorem cal_Model_putsAside : zCallee cf_Model_putsAside 0 := ⟨rfl, zc_yX9_putsAside, by decide, by decide, by decide +kernel⟩
def L_Model_putsAside_2 (K : ZMem → Option ZRes) : Nat → Int → ZMem → Option ZRes
  | 0, _, _ => none
  | n + 1, v1, μ => if w32 92 ≤ w32 v1 then (K  μ) else (zRd μ 5 92 v1 (fun x1 => zWr μ 11 92 v1 x1 (fun μ2 => zLet (v1 + 1) (fun x3 => L_Model_putsAside_2 K n x3 μ2))))
set_option maxRecDepth 100000 in
theorem l_Model_putsAside_2 {K : ZMem → Option ZRes} (hK : ∀ (μ : ZMem), AW cf_Model_putsAside S_Model.length S_Model S_Model 26 [(0, zR (some 0))] [] μ 0 0 (K μ)) : ∀ (n : Nat) (v1 : Int) (μ : ZMem), AW cf_Model_putsAside S_Model.length S_Model S_Model 2 [(0, zR (some 0)), (1, zI v1)] [] μ 0 0 (L_Model_putsAside_2 K n v1 μ) := by
  intro n
  induction n with
  | zero => intro v1 μ; exact AW.noth
  | succ n ih =>
    intro v1 μ
    rw [L_Model_putsAside_2]
    refine AW.iload_n (i := 1) (a := v1) (by decide +kernel) rfl (?_ : AW _ _ _ _ 3 _ _ _ _ _ _)
    refine AW.bipush (n := 92) (by decide +kernel) (by decide +kernel) (?_ : AW _ _ _ _ 5 _ _ _ _ _ _)
    refine AW.icmp_ge (off := 21) (tgt := 26) (by decide +kernel) (by decide) (fun _ => ?_) (fun _ => ?_)
    · refine AW.sub (L' := [(0, zR (some 0))]) [0] rfl ?_
      exact hK  μ
    · refine AW.aload_n (i := 0) (a := 0) (by decide +kernel) rfl (?_ : AW _ _ _ _ 9 _ _ _ _ _ _)
      refine AW.getR (idx := 45) (ci := 9) (k := 15) (r := 0) (by decide +kernel) rfl rfl rfl (?_ : AW _ _ _ _ 12 _ _ _ _ _ _)
      refine AW.iload_n (i := 1) (a := v1) (by decide +kernel) rfl (?_ : AW _ _ _ _ 13 _ _ _ _ _ _)
      refine AW.aload_n (i := 0) (a := 0) (by decide +kernel) rfl (?_ : AW _ _ _ _ 14 _ _ _ _ _ _)
      refine AW.getR (idx := 22) (ci := 9) (k := 7) (r := 0) (by decide +kernel) rfl rfl rfl (?_ : AW _ _ _ _ 17 _ _ _ _ _ _)
      refine AW.iload_n (i := 1) (a := v1) (by decide +kernel) rfl (?_ : AW _ _ _ _ 18 _ _ _ _ _ _)
      refine AW.lald (r := 5) (by decide +kernel) rfl (fun x1 => (?_ : AW _ _ _ _ 19 _ _ _ _ _ _))
      refine AW.lastL (r := 11) (by decide +kernel) rfl (fun μ2 => (?_ : AW _ _ _ _ 20 _ _ _ _ _ _))
      refine AW.iincL (i := 1) (n := 1) (a := v1) (L' := fun x3 => [(1, zI x3), (0, zR (some 0))]) (by decide +kernel) rfl (by decide) (fun _ => rfl) (fun x3 => (?_ : AW _ _ _ _ 23 _ _ _ _ _ _))
      refine AW.goto (off := -21) (tgt := 2) (by decide +kernel) (by decide) ?_
      refine AW.sub (L' := [(0, zR (some 0)), (1, zI x3)]) [1, 0] rfl ?_
      exact ih x3 μ2
def L_Model_putsAside_28 (K : ZMem → Option ZRes) : Nat → Int → ZMem → Option ZRes
  | 0, _, _ => none
  | n + 1, v1, μ => if w32 1206 ≤ w32 v1 then (K  μ) else (zRd μ 6 1206 v1 (fun x5 => zWr μ 12 1206 v1 x5 (fun μ6 => zRd μ6 7 1206 v1 (fun x7 => zWr μ6 13 1206 v1 x7 (fun μ8 => zLet (v1 + 1) (fun x9 => L_Model_putsAside_28 K n x9 μ8))))))
set_option maxRecDepth 100000 in
theorem l_Model_putsAside_28 {K : ZMem → Option ZRes} (hK : ∀ (μ : ZMem), AW cf_Model_putsAside S_Model.length S_Model S_Model 65 [] [] μ 0 0 (K μ)) : ∀ (n : Nat) (v1 : Int) (μ : ZMem), AW cf_Model_putsAside S_Model.length S_Model S_Model 28 [(0, zR (some 0)), (1, zI v1)] [] μ 0 0 (L_Model_putsAside_28 K n v1 μ) := by
  intro n
  induction n with
  | zero => intro v1 μ; exact AW.noth
  | succ n ih =>
    intro v1 μ
    rw [L_Model_putsAside_28]
    refine AW.iload_n (i := 1) (a := v1) (by decide +kernel) rfl (?_ : AW _ _ _ _ 29 _ _ _ _ _ _)
    refine AW.sipush (n := 1206) (by decide +kernel) (by decide +kernel) (?_ : AW _ _ _ _ 32 _ _ _ _ _ _)
    refine AW.icmp_ge (off := 33) (tgt := 65) (by decide +kernel) (by decide) (fun _ => ?_) (fun _ => ?_)
    · refine AW.sub (L' := []) [] rfl ?_
      exact hK  μ
    · refine AW.aload_n (i := 0) (a := 0) (by decide +kernel) rfl (?_ : AW _ _ _ _ 36 _ _ _ _ _ _)
      refine AW.getR (idx := 48) (ci := 9) (k := 16) (r := 0) (by decide +kernel) rfl rfl rfl (?_ : AW _ _ _ _ 39 _ _ _ _ _ _)
      refine AW.iload_n (i := 1) (a := v1) (by decide +kernel) rfl (?_ : AW _ _ _ _ 40 _ _ _ _ _ _)
      refine AW.aload_n (i := 0) (a := 0) (by decide +kernel) rfl (?_ : AW _ _ _ _ 41 _ _ _ _ _ _)
      refine AW.getR (idx := 26) (ci := 9) (k := 8) (r := 0) (by decide +kernel) rfl rfl rfl (?_ : AW _ _ _ _ 44 _ _ _ _ _ _)
      refine AW.iload_n (i := 1) (a := v1) (by decide +kernel) rfl (?_ : AW _ _ _ _ 45 _ _ _ _ _ _)
      refine AW.lald (r := 6) (by decide +kernel) rfl (fun x5 => (?_ : AW _ _ _ _ 46 _ _ _ _ _ _))
      refine AW.lastL (r := 12) (by decide +kernel) rfl (fun μ6 => (?_ : AW _ _ _ _ 47 _ _ _ _ _ _))
      refine AW.aload_n (i := 0) (a := 0) (by decide +kernel) rfl (?_ : AW _ _ _ _ 48 _ _ _ _ _ _)
      refine AW.getR (idx := 51) (ci := 9) (k := 17) (r := 0) (by decide +kernel) rfl rfl rfl (?_ : AW _ _ _ _ 51 _ _ _ _ _ _)
      refine AW.iload_n (i := 1) (a := v1) (by decide +kernel) rfl (?_ : AW _ _ _ _ 52 _ _ _ _ _ _)
      refine AW.aload_n (i := 0) (a := 0) (by decide +kernel) rfl (?_ : AW _ _ _ _ 53 _ _ _ _ _ _)
      refine AW.getR (idx := 29) (ci := 9) (k := 9) (r := 0) (by decide +kernel) rfl rfl rfl (?_ : AW _ _ _ _ 56 _ _ _ _ _ _)
      refine AW.iload_n (i := 1) (a := v1) (by decide +kernel) rfl (?_ : AW _ _ _ _ 57 _ _ _ _ _ _)
      refine AW.lald (r := 7) (by decide +kernel) rfl (fun x7 => (?_ : AW _ _ _ _ 58 _ _ _ _ _ _))
      refine AW.lastL (r := 13) (by decide +kernel) rfl (fun μ8 => (?_ : AW _ _ _ _ 59 _ _ _ _ _ _))
      refine AW.iincL (i := 1) (n := 1) (a := v1) (L' := fun x9 => [(1, zI x9), (0, zR (some 0))]) (by decide +kernel) rfl (by decide) (fun _ => rfl) (fun x9 => (?_ : AW _ _ _ _ 62 _ _ _ _ _ _))
      refine AW.goto (off := -34) (tgt := 28) (by decide +kernel) (by decide) ?_
      refine AW.sub (L' := [(0, zR (some 0)), (1, zI x9)]) [1, 0] rfl ?_
      exact ih x9 μ8
def F_Model_putsAside (μ : ZMem) : Option ZRes := L_Model_putsAside_2 (fun μ4 => L_Model_putsAside_28 (fun μ10 => some (.inr none, μ10)) zN 0 μ4) zN 0 μ
set_option maxRecDepth 100000 in
theorem w_Model_putsAside (μ : ZMem) : AW cf_Model_putsAside S_Model.length S_Model S_Model 0 [(0, zR (some 0))] [] μ 0 0 (F_Model_putsAside μ) := by
  unfold F_Model_putsAside
  refine AW.iconst (n := 0) (by decide +kernel) (?_ : AW _ _ _ _ 1 _ _ _ _ _ _)
  refine AW.istore_n' (i := 1) (L' := [(1, zI 0), (0, zR (some 0))]) (by decide +kernel) (by decide) rfl (?_ : AW _ _ _ _ 2 _ _ _ _ _ _)
  refine AW.sub (L' := [(0, zR (some 0)), (1, zI 0)]) [1, 0] rfl ?_
  refine l_Model_putsAside_2 (fun μ4 => ?_) zN _ _
  refine AW.iconst (n := 0) (by decide +kernel) (?_ : AW _ _ _ _ 27 _ _ _ _ _ _)
  refine AW.istore_n' (i := 1) (L' := [(1, zI 0), (0, zR (some 0))]) (by decide +kernel) (by decide) rfl (?_ : AW _ _ _ _ 28 _ _ _ _ _ _)
  refine AW.sub (L' := [(0, zR (some 0)), (1, zI 0)]) [1, 0] rfl ?_
  refine l_Model_putsAside_28 (fun μ10 => ?_) zN _ _
  exact AW.retv (by decide +kernel) rfl (by decide) (by decide)
theorem c_Model_putsAside (l : Launch) (hl : l.stackTraces = false) (μ : ZMem) (r : ZRes) (h : F_Model_putsAside μ = some r) : ZC l cf_Model_putsAside S_Model S_Model [zR (some 0)] μ r := ZC.of hl (by decide +kernel) rfl rfl zft_X9_ok (Nat.le_of_ble_eq_true rfl) h (w_Model_putsAside μ)
/-! WeirLedgerModel.comesBack()V -/
def cf_Model_comesBack : ZCf := (yX9_comesBack, cX9_comesBack, 2, none, [], 2, 0, 0, zft_X9, none)
theorem cal_Model_comesBack : zCallee cf_Model_comesBack 0 := ⟨rfl, zc_yX9_comesBack, by decide, by decide, by decide +kernel⟩
def L_Model_comesBack_2 (K : ZMem → Option ZRes) : Nat → Int → ZMem → Option ZRes
  | 0, _, _ => none
  | n + 1, v1, μ => if w32 92 ≤ w32 v1 then (K  μ) else (zRd μ 11 92 v1 (fun x1 => zWr μ 5 92 v1 x1 (fun μ2 => zLet (v1 + 1) (fun x3 => L_Model_comesBack_2 K n x3 μ2))))
set_option maxRecDepth 100000 in
theorem l_Model_comesBack_2 {K : ZMem → Option ZRes} (hK : ∀ (μ : ZMem), AW cf_Model_comesBack S_Model.length S_Model S_Model 26 [(0, zR (some 0))] [] μ 0 0 (K μ)) : ∀ (n : Nat) (v1 : Int) (μ : ZMem), AW cf_Model_comesBack S_Model.length S_Model S_Model 2 [(0, zR (some 0)), (1, zI v1)] [] μ 0 0 (L_Model_comesBack_2 K n v1 μ) := by
  intro n
  induction n with
  | zero => intro v1 μ; exact AW.noth
  | succ n ih =>
    intro v1 μ
    rw [L_Model_comesBack_2]
    refine AW.iload_n (i := 1) (a := v1) (by decide +kernel) rfl (?_ : AW _ _ _ _ 3 _ _ _ _ _ _)
    refine AW.bipush (n := 92) (by decide +kernel) (by decide +kernel) (?_ : AW _ _ _ _ 5 _ _ _ _ _ _)
    refine AW.icmp_ge (off := 21) (tgt := 26) (by decide +kernel) (by decide) (fun _ => ?_) (fun _ => ?_)
    · refine AW.sub (L' := [(0, zR (some 0))]) [0] rfl ?_
      exact hK  μ
    · refine AW.aload_n (i := 0) (a := 0) (by decide +kernel) rfl (?_ : AW _ _ _ _ 9 _ _ _ _ _ _)
      refine AW.getR (idx := 22) (ci := 9) (k := 7) (r := 0) (by decide +kernel) rfl rfl rfl (?_ : AW _ _ _ _ 12 _ _ _ _ _ _)
      refine AW.iload_n (i := 1) (a := v1) (by decide +kernel) rfl (?_ : AW _ _ _ _ 13 _ _ _ _ _ _)
      refine AW.aload_n (i := 0) (a := 0) (by decide +kernel) rfl (?_ : AW _ _ _ _ 14 _ _ _ _ _ _)
      refine AW.getR (idx := 45) (ci := 9) (k := 15) (r := 0) (by decide +kernel) rfl rfl rfl (?_ : AW _ _ _ _ 17 _ _ _ _ _ _)
      refine AW.iload_n (i := 1) (a := v1) (by decide +kernel) rfl (?_ : AW _ _ _ _ 18 _ _ _ _ _ _)
      refine AW.lald (r := 11) (by decide +kernel) rfl (fun x1 => (?_ : AW _ _ _ _ 19 _ _ _ _ _ _))
      refine AW.lastL (r := 5) (by decide +kernel) rfl (fun μ2 => (?_ : AW _ _ _ _ 20 _ _ _ _ _ _))
      refine AW.iincL (i := 1) (n := 1) (a := v1) (L' := fun x3 => [(1, zI x3), (0, zR (some 0))]) (by decide +kernel) rfl (by decide) (fun _ => rfl) (fun x3 => (?_ : AW _ _ _ _ 23 _ _ _ _ _ _))
      refine AW.goto (off := -21) (tgt := 2) (by decide +kernel) (by decide) ?_
      refine AW.sub (L' := [(0, zR (some 0)), (1, zI x3)]) [1, 0] rfl ?_
      exact ih x3 μ2
def L_Model_comesBack_28 (K : ZMem → Option ZRes) : Nat → Int → ZMem → Option ZRes
  | 0, _, _ => none
  | n + 1, v1, μ => if w32 1206 ≤ w32 v1 then (K  μ) else (zRd μ 12 1206 v1 (fun x5 => zWr μ 6 1206 v1 x5 (fun μ6 => zRd μ6 13 1206 v1 (fun x7 => zWr μ6 7 1206 v1 x7 (fun μ8 => zLet (v1 + 1) (fun x9 => L_Model_comesBack_28 K n x9 μ8))))))
set_option maxRecDepth 100000 in
theorem l_Model_comesBack_28 {K : ZMem → Option ZRes} (hK : ∀ (μ : ZMem), AW cf_Model_comesBack S_Model.length S_Model S_Model 65 [] [] μ 0 0 (K μ)) : ∀ (n : Nat) (v1 : Int) (μ : ZMem), AW cf_Model_comesBack S_Model.length S_Model S_Model 28 [(0, zR (some 0)), (1, zI v1)] [] μ 0 0 (L_Model_comesBack_28 K n v1 μ) := by
  intro n
  induction n with
  | zero => intro v1 μ; exact AW.noth
  | succ n ih =>
    intro v1 μ
    rw [L_Model_comesBack_28]
    refine AW.iload_n (i := 1) (a := v1) (by decide +kernel) rfl (?_ : AW _ _ _ _ 29 _ _ _ _ _ _)
    refine AW.sipush (n := 1206) (by decide +kernel) (by decide +kernel) (?_ : AW _ _ _ _ 32 _ _ _ _ _ _)
    refine AW.icmp_ge (off := 33) (tgt := 65) (by decide +kernel) (by decide) (fun _ => ?_) (fun _ => ?_)
    · refine AW.sub (L' := []) [] rfl ?_
      exact hK  μ
    · refine AW.aload_n (i := 0) (a := 0) (by decide +kernel) rfl (?_ : AW _ _ _ _ 36 _ _ _ _ _ _)
      refine AW.getR (idx := 26) (ci := 9) (k := 8) (r := 0) (by decide +kernel) rfl rfl rfl (?_ : AW _ _ _ _ 39 _ _ _ _ _ _)
      refine AW.iload_n (i := 1) (a := v1) (by decide +kernel) rfl (?_ : AW _ _ _ _ 40 _ _ _ _ _ _)
      refine AW.aload_n (i := 0) (a := 0) (by decide +kernel) rfl (?_ : AW _ _ _ _ 41 _ _ _ _ _ _)
      refine AW.getR (idx := 48) (ci := 9) (k := 16) (r := 0) (by decide +kernel) rfl rfl rfl (?_ : AW _ _ _ _ 44 _ _ _ _ _ _)
      refine AW.iload_n (i := 1) (a := v1) (by decide +kernel) rfl (?_ : AW _ _ _ _ 45 _ _ _ _ _ _)
      refine AW.lald (r := 12) (by decide +kernel) rfl (fun x5 => (?_ : AW _ _ _ _ 46 _ _ _ _ _ _))
      refine AW.lastL (r := 6) (by decide +kernel) rfl (fun μ6 => (?_ : AW _ _ _ _ 47 _ _ _ _ _ _))
      refine AW.aload_n (i := 0) (a := 0) (by decide +kernel) rfl (?_ : AW _ _ _ _ 48 _ _ _ _ _ _)
      refine AW.getR (idx := 29) (ci := 9) (k := 9) (r := 0) (by decide +kernel) rfl rfl rfl (?_ : AW _ _ _ _ 51 _ _ _ _ _ _)
      refine AW.iload_n (i := 1) (a := v1) (by decide +kernel) rfl (?_ : AW _ _ _ _ 52 _ _ _ _ _ _)
      refine AW.aload_n (i := 0) (a := 0) (by decide +kernel) rfl (?_ : AW _ _ _ _ 53 _ _ _ _ _ _)
      refine AW.getR (idx := 51) (ci := 9) (k := 17) (r := 0) (by decide +kernel) rfl rfl rfl (?_ : AW _ _ _ _ 56 _ _ _ _ _ _)
      refine AW.iload_n (i := 1) (a := v1) (by decide +kernel) rfl (?_ : AW _ _ _ _ 57 _ _ _ _ _ _)
      refine AW.lald (r := 13) (by decide +kernel) rfl (fun x7 => (?_ : AW _ _ _ _ 58 _ _ _ _ _ _))
      refine AW.lastL (r := 7) (by decide +kernel) rfl (fun μ8 => (?_ : AW _ _ _ _ 59 _ _ _ _ _ _))
      refine AW.iincL (i := 1) (n := 1) (a := v1) (L' := fun x9 => [(1, zI x9), (0, zR (some 0))]) (by decide +kernel) rfl (by decide) (fun _ => rfl) (fun x9 => (?_ : AW _ _ _ _ 62 _ _ _ _ _ _))
      refine AW.goto (off := -34) (tgt := 28) (by decide +kernel) (by decide) ?_
      refine AW.sub (L' := [(0, zR (some 0)), (1, zI x9)]) [1, 0] rfl ?_
      exact ih x9 μ8
def F_Model_comesBack (μ : ZMem) : Option ZRes := L_Model_comesBack_2 (fun μ4 => L_Model_comesBack_28 (fun μ10 => some (.inr none, μ10)) zN 0 μ4) zN 0 μ
set_option maxRecDepth 100000 in
theorem w_Model_comesBack (μ : ZMem) : AW cf_Model_comesBack S_Model.length S_Model S_Model 0 [(0, zR (some 0))] [] μ 0 0 (F_Model_comesBack μ) := by
  unfold F_Model_comesBack
  refine AW.iconst (n := 0) (by decide +kernel) (?_ : AW _ _ _ _ 1 _ _ _ _ _ _)
  refine AW.istore_n' (i := 1) (L' := [(1, zI 0), (0, zR (some 0))]) (by decide +kernel) (by decide) rfl (?_ : AW _ _ _ _ 2 _ _ _ _ _ _)
  refine AW.sub (L' := [(0, zR (some 0)), (1, zI 0)]) [1, 0] rfl ?_
  refine l_Model_comesBack_2 (fun μ4 => ?_) zN _ _
  refine AW.iconst (n := 0) (by decide +kernel) (?_ : AW _ _ _ _ 27 _ _ _ _ _ _)
  refine AW.istore_n' (i := 1) (L' := [(1, zI 0), (0, zR (some 0))]) (by decide +kernel) (by decide) rfl (?_ : AW _ _ _ _ 28 _ _ _ _ _ _)
  refine AW.sub (L' := [(0, zR (some 0)), (1, zI 0)]) [1, 0] rfl ?_
  refine l_Model_comesBack_28 (fun μ10 => ?_) zN _ _
  exact AW.retv (by decide +kernel) rfl (by decide) (by decide)
theorem c_Model_comesBack (l : Launch) (hl : l.stackTraces = false) (μ : ZMem) (r : ZRes) (h : F_Model_comesBack μ = some r) : ZC l cf_Model_comesBack S_Model S_Model [zR (some 0)] μ r := ZC.of hl (by decide +kernel) rfl rfl zft_X9_ok (Nat.le_of_ble_eq_true rfl) h (w_Model_comesBack μ)
/-! WeirLedgerModel.areClosed()Z -/
def cf_Model_areClosed : ZCf := (yX9_areClosed, cX9_areClosed, 2, some .boolean, [], 3, 0, 0, zft_X9, none)
theorem cal_Model_areClosed : zCallee cf_Model_areClosed 0 := ⟨rfl, zc_yX9_areClosed, by decide, by decide, by decide +kernel⟩
def L_Model_areClosed_2 (μ : ZMem) (K : Option ZRes) : Nat → Int → Option ZRes
  | 0, _ => none
  | n + 1, v1 => if w32 (μ 0 6) ≤ w32 v1 then (K) else (zC (F_Model_dealAt v1 3 μ) (zkI (fun x2 _ => zRd μ 5 92 x2 (fun x3 => if w64 x3 = w64 0 then (some (.inr (some (zI 0)), μ)) else (zLet (v1 + 1) (fun x4 => L_Model_areClosed_2 μ K n x4))))) zX0)
set_option maxRecDepth 100000 in
theorem l_Model_areClosed_2 {μ : ZMem} {K : Option ZRes} (hK : AW cf_Model_areClosed S_Model.length S_Model S_Model 33 [] [] μ 0 0 (K)) : ∀ (n : Nat) (v1 : Int), AW cf_Model_areClosed S_Model.length S_Model S_Model 2 [(0, zR (some 0)), (1, zI v1)] [] μ 0 0 (L_Model_areClosed_2 μ K n v1) := by
  intro n
  induction n with
  | zero => intro v1; exact AW.noth
  | succ n ih =>
    intro v1
    rw [L_Model_areClosed_2]
    refine AW.iload_n (i := 1) (a := v1) (by decide +kernel) rfl (?_ : AW _ _ _ _ 3 _ _ _ _ _ _)
    refine AW.aload_n (i := 0) (a := 0) (by decide +kernel) rfl (?_ : AW _ _ _ _ 4 _ _ _ _ _ _)
    refine AW.getI (idx := 103) (ci := 9) (k := 6) (r := 0) (by decide +kernel) rfl rfl rfl (?_ : AW _ _ _ _ 7 _ _ _ _ _ _)
    refine AW.icmp_ge (off := 26) (tgt := 33) (by decide +kernel) (by decide) (fun _ => ?_) (fun _ => ?_)
    · refine AW.sub (L' := []) [] rfl ?_
      exact hK 
    · refine AW.aload_n (i := 0) (a := 0) (by decide +kernel) rfl (?_ : AW _ _ _ _ 11 _ _ _ _ _ _)
      refine AW.getR (idx := 22) (ci := 9) (k := 7) (r := 0) (by decide +kernel) rfl rfl rfl (?_ : AW _ _ _ _ 14 _ _ _ _ _ _)
      refine AW.iload_n (i := 1) (a := v1) (by decide +kernel) rfl (?_ : AW _ _ _ _ 15 _ _ _ _ _ _)
      refine AW.iconst (n := 3) (by decide +kernel) (?_ : AW _ _ _ _ 16 _ _ _ _ _ _)
      refine AW.callP (g := cf_Model_dealAt) (av := [zI v1, zI 3]) (idx := 166) (n := 2) (st := [zR (some 5)]) (by decide +kernel) (fun l hl r hr => c_Model_dealAt l hl v1 3 _ r hr) rfl cal_Model_dealAt rfl (zw3 zm_X9_166 zt_yX9_dealAt zn_X9) ⟨by decide, by decide, by decide, by decide⟩ (Nat.le_of_ble_eq_true rfl) (fun v _ => AW.kI (fun x2 => (?_ : AW _ _ _ _ 19 _ _ _ _ _ _)) v)
      refine AW.lald (r := 5) (by decide +kernel) rfl (fun x3 => (?_ : AW _ _ _ _ 20 _ _ _ _ _ _))
      refine AW.lconst0 (by decide +kernel) (?_ : AW _ _ _ _ 21 _ _ _ _ _ _)
      refine AW.lcmp_ne (off := 5) (tgt := 27) (by decide +kernel) (by decide +kernel) (by decide) (fun _ => ?_) (fun _ => ?_)
      · refine AW.iconst (n := 0) (by decide +kernel) (?_ : AW _ _ _ _ 26 _ _ _ _ _ _)
        exact AW.retb1 (by decide +kernel) rfl (by decide) (by decide) (by decide)
      · refine AW.iincL (i := 1) (n := 1) (a := v1) (L' := fun x4 => [(1, zI x4), (0, zR (some 0))]) (by decide +kernel) rfl (by decide) (fun _ => rfl) (fun x4 => (?_ : AW _ _ _ _ 30 _ _ _ _ _ _))
        refine AW.goto (off := -28) (tgt := 2) (by decide +kernel) (by decide) ?_
        refine AW.sub (L' := [(0, zR (some 0)), (1, zI x4)]) [1, 0] rfl ?_
        exact ih x4
def F_Model_areClosed (μ : ZMem) : Option ZRes := L_Model_areClosed_2 μ (some (.inr (some (zI 1)), μ)) zN 0
set_option maxRecDepth 100000 in
theorem w_Model_areClosed (μ : ZMem) : AW cf_Model_areClosed S_Model.length S_Model S_Model 0 [(0, zR (some 0))] [] μ 0 0 (F_Model_areClosed μ) := by
  unfold F_Model_areClosed
  refine AW.iconst (n := 0) (by decide +kernel) (?_ : AW _ _ _ _ 1 _ _ _ _ _ _)
  refine AW.istore_n' (i := 1) (L' := [(1, zI 0), (0, zR (some 0))]) (by decide +kernel) (by decide) rfl (?_ : AW _ _ _ _ 2 _ _ _ _ _ _)
  refine AW.sub (L' := [(0, zR (some 0)), (1, zI 0)]) [1, 0] rfl ?_
  refine l_Model_areClosed_2 ?_ zN _
  refine AW.iconst (n := 1) (by decide +kernel) (?_ : AW _ _ _ _ 34 _ _ _ _ _ _)
  exact AW.retb1 (by decide +kernel) rfl (by decide) (by decide) (by decide)
theorem c_Model_areClosed (l : Launch) (hl : l.stackTraces = false) (μ : ZMem) (r : ZRes) (h : F_Model_areClosed μ = some r) : ZC l cf_Model_areClosed S_Model S_Model [zR (some 0)] μ r := ZC.of hl (by decide +kernel) rfl rfl zft_X9_ok (Nat.le_of_ble_eq_true rfl) h (w_Model_areClosed μ)
/-! WeirLedgerModel.canMove(III)Z -/
def cf_Model_canMove : ZCf := (yX9_canMove, cX9_canMove, 4, some .boolean, [], 3, 0, 0, zft_X9, none)
theorem cal_Model_canMove : zCallee cf_Model_canMove 3 := ⟨rfl, zc_yX9_canMove, by decide, by decide, by decide +kernel⟩
def F_Model_canMove (a1 : Int) (a2 : Int) (a3 : Int) (μ : ZMem) : Option ZRes := zC (F_Model_placeOf a1 0 μ) (zkI (fun x2 _ => zRd μ 5 92 x2 (fun x3 => if w64 x3 ≤ w64 (w32 a3) then (some (.inr (some (zI 0)), μ)) else (zC (F_Model_placeOf a2 0 μ) (zkI (fun x5 _ => zRd μ 5 92 x5 (fun x6 => if w64 9999 < w64 (x6 + (w32 a3)) then (some (.inr (some (zI 0)), μ)) else (zC (F_Model_placeOf a1 4 μ) (zkI (fun x8 _ => zRd μ 5 92 x8 (fun x9 => zC (F_Model_placeOf a2 4 μ) (zkI (fun x11 _ => zRd μ 5 92 x11 (fun x12 => if w64 (x9 + x12) = w64 0 then (some (.inr (some (zI 1)), μ)) else (some (.inr (some (zI 0)), μ))))) zX0))) zX0)))) zX0)))) zX0
set_option maxRecDepth 100000 in
theorem w_Model_canMove (a1 : Int) (a2 : Int) (a3 : Int) (μ : ZMem) : AW cf_Model_canMove S_Model.length S_Model S_Model 0 [(0, zR (some 0)), (1, zI a1), (2, zI a2), (3, zI a3)] [] μ 0 0 (F_Model_canMove a1 a2 a3 μ) := by
  unfold F_Model_canMove
  refine AW.iload_n (i := 3) (a := a3) (by decide +kernel) rfl (?_ : AW _ _ _ _ 1 _ _ _ _ _ _)
  refine AW.i2l (by decide +kernel) (?_ : AW _ _ _ _ 2 _ _ _ _ _ _)
  refine AW.aload_n (i := 0) (a := 0) (by decide +kernel) rfl (?_ : AW _ _ _ _ 3 _ _ _ _ _ _)
  refine AW.getR (idx := 22) (ci := 9) (k := 7) (r := 0) (by decide +kernel) rfl rfl rfl (?_ : AW _ _ _ _ 6 _ _ _ _ _ _)
  refine AW.iload_n (i := 1) (a := a1) (by decide +kernel) rfl (?_ : AW _ _ _ _ 7 _ _ _ _ _ _)
  refine AW.iconst (n := 0) (by decide +kernel) (?_ : AW _ _ _ _ 8 _ _ _ _ _ _)
  refine AW.callP (g := cf_Model_placeOf) (av := [zI a1, zI 0]) (idx := 110) (n := 2) (st := [zR (some 5), zJ (w32 a3)]) (by decide +kernel) (fun l hl r hr => c_Model_placeOf l hl a1 0 _ r hr) rfl cal_Model_placeOf rfl (zw3 zm_X9_110 zt_yX9_placeOf zn_X9) ⟨by decide, by decide, by decide, by decide⟩ (Nat.le_of_ble_eq_true rfl) (fun v _ => AW.kI (fun x2 => (?_ : AW _ _ _ _ 11 _ _ _ _ _ _)) v)
  refine AW.lald (r := 5) (by decide +kernel) rfl (fun x3 => (?_ : AW _ _ _ _ 12 _ _ _ _ _ _))
  refine AW.lcmp_ge (off := 53) (tgt := 66) (by decide +kernel) (by decide +kernel) (by decide) (fun _ => ?_) (fun _ => ?_)
  · refine AW.iconst (n := 0) (by decide +kernel) (?_ : AW _ _ _ _ 67 _ _ _ _ _ _)
    exact AW.retb1 (by decide +kernel) rfl (by decide) (by decide) (by decide)
  · refine AW.aload_n (i := 0) (a := 0) (by decide +kernel) rfl (?_ : AW _ _ _ _ 17 _ _ _ _ _ _)
    refine AW.getR (idx := 22) (ci := 9) (k := 7) (r := 0) (by decide +kernel) rfl rfl rfl (?_ : AW _ _ _ _ 20 _ _ _ _ _ _)
    refine AW.iload_n (i := 2) (a := a2) (by decide +kernel) rfl (?_ : AW _ _ _ _ 21 _ _ _ _ _ _)
    refine AW.iconst (n := 0) (by decide +kernel) (?_ : AW _ _ _ _ 22 _ _ _ _ _ _)
    refine AW.callP (g := cf_Model_placeOf) (av := [zI a2, zI 0]) (idx := 110) (n := 2) (st := [zR (some 5)]) (by decide +kernel) (fun l hl r hr => c_Model_placeOf l hl a2 0 _ r hr) rfl cal_Model_placeOf rfl (zw3 zm_X9_110 zt_yX9_placeOf zn_X9) ⟨by decide, by decide, by decide, by decide⟩ (Nat.le_of_ble_eq_true rfl) (fun v _ => AW.kI (fun x5 => (?_ : AW _ _ _ _ 25 _ _ _ _ _ _)) v)
    refine AW.lald (r := 5) (by decide +kernel) rfl (fun x6 => (?_ : AW _ _ _ _ 26 _ _ _ _ _ _))
    refine AW.iload_n (i := 3) (a := a3) (by decide +kernel) rfl (?_ : AW _ _ _ _ 27 _ _ _ _ _ _)
    refine AW.i2l (by decide +kernel) (?_ : AW _ _ _ _ 28 _ _ _ _ _ _)
    refine AW.ladd (by decide +kernel) (?_ : AW _ _ _ _ 29 _ _ _ _ _ _)
    refine AW.ldc2 (idx := 218) (v := 9999) (by decide +kernel) zk_X9_218 (?_ : AW _ _ _ _ 32 _ _ _ _ _ _)
    refine AW.lcmp_gt (off := 33) (tgt := 66) (by decide +kernel) (by decide +kernel) (by decide) (fun _ => ?_) (fun _ => ?_)
    · refine AW.iconst (n := 0) (by decide +kernel) (?_ : AW _ _ _ _ 67 _ _ _ _ _ _)
      exact AW.retb1 (by decide +kernel) rfl (by decide) (by decide) (by decide)
    · refine AW.aload_n (i := 0) (a := 0) (by decide +kernel) rfl (?_ : AW _ _ _ _ 37 _ _ _ _ _ _)
      refine AW.getR (idx := 22) (ci := 9) (k := 7) (r := 0) (by decide +kernel) rfl rfl rfl (?_ : AW _ _ _ _ 40 _ _ _ _ _ _)
      refine AW.iload_n (i := 1) (a := a1) (by decide +kernel) rfl (?_ : AW _ _ _ _ 41 _ _ _ _ _ _)
      refine AW.iconst (n := 4) (by decide +kernel) (?_ : AW _ _ _ _ 42 _ _ _ _ _ _)
      refine AW.callP (g := cf_Model_placeOf) (av := [zI a1, zI 4]) (idx := 110) (n := 2) (st := [zR (some 5)]) (by decide +kernel) (fun l hl r hr => c_Model_placeOf l hl a1 4 _ r hr) rfl cal_Model_placeOf rfl (zw3 zm_X9_110 zt_yX9_placeOf zn_X9) ⟨by decide, by decide, by decide, by decide⟩ (Nat.le_of_ble_eq_true rfl) (fun v _ => AW.kI (fun x8 => (?_ : AW _ _ _ _ 45 _ _ _ _ _ _)) v)
      refine AW.lald (r := 5) (by decide +kernel) rfl (fun x9 => (?_ : AW _ _ _ _ 46 _ _ _ _ _ _))
      refine AW.aload_n (i := 0) (a := 0) (by decide +kernel) rfl (?_ : AW _ _ _ _ 47 _ _ _ _ _ _)
      refine AW.getR (idx := 22) (ci := 9) (k := 7) (r := 0) (by decide +kernel) rfl rfl rfl (?_ : AW _ _ _ _ 50 _ _ _ _ _ _)
      refine AW.iload_n (i := 2) (a := a2) (by decide +kernel) rfl (?_ : AW _ _ _ _ 51 _ _ _ _ _ _)
      refine AW.iconst (n := 4) (by decide +kernel) (?_ : AW _ _ _ _ 52 _ _ _ _ _ _)
      refine AW.callP (g := cf_Model_placeOf) (av := [zI a2, zI 4]) (idx := 110) (n := 2) (st := [zR (some 5), zJ x9]) (by decide +kernel) (fun l hl r hr => c_Model_placeOf l hl a2 4 _ r hr) rfl cal_Model_placeOf rfl (zw3 zm_X9_110 zt_yX9_placeOf zn_X9) ⟨by decide, by decide, by decide, by decide⟩ (Nat.le_of_ble_eq_true rfl) (fun v _ => AW.kI (fun x11 => (?_ : AW _ _ _ _ 55 _ _ _ _ _ _)) v)
      refine AW.lald (r := 5) (by decide +kernel) rfl (fun x12 => (?_ : AW _ _ _ _ 56 _ _ _ _ _ _))
      refine AW.ladd (by decide +kernel) (?_ : AW _ _ _ _ 57 _ _ _ _ _ _)
      refine AW.lconst0 (by decide +kernel) (?_ : AW _ _ _ _ 58 _ _ _ _ _ _)
      refine AW.lcmp_ne (off := 7) (tgt := 66) (by decide +kernel) (by decide +kernel) (by decide) (fun _ => ?_) (fun _ => ?_)
      · refine AW.iconst (n := 1) (by decide +kernel) (?_ : AW _ _ _ _ 63 _ _ _ _ _ _)
        refine AW.goto (off := 4) (tgt := 67) (by decide +kernel) (by decide) ?_
        exact AW.retb1 (by decide +kernel) rfl (by decide) (by decide) (by decide)
      · refine AW.iconst (n := 0) (by decide +kernel) (?_ : AW _ _ _ _ 67 _ _ _ _ _ _)
        exact AW.retb1 (by decide +kernel) rfl (by decide) (by decide) (by decide)
theorem c_Model_canMove (l : Launch) (hl : l.stackTraces = false) (a1 : Int) (a2 : Int) (a3 : Int) (μ : ZMem) (r : ZRes) (h : F_Model_canMove a1 a2 a3 μ = some r) : ZC l cf_Model_canMove S_Model S_Model [zR (some 0), zI a1, zI a2, zI a3] μ r := ZC.of hl (by decide +kernel) rfl rfl zft_X9_ok (Nat.le_of_ble_eq_true rfl) h (w_Model_canMove a1 a2 a3 μ)
/-! WeirLedgerModel.canBe(IIII)Z -/
def cf_Model_canBe : ZCf := (yX9_canBe, cX9_canBe, 5, some .boolean, [], 4, 0, 0, zft_X9, none)
theorem cal_Model_canBe : zCallee cf_Model_canBe 4 := ⟨rfl, zc_yX9_canBe, by decide, by decide, by decide +kernel⟩
def F_Model_canBe (a1 : Int) (a2 : Int) (a3 : Int) (a4 : Int) (μ : ZMem) : Option ZRes := if w32 (μ 0 5) = 0 then (some (.inr (some (zI 0)), μ)) else (zRd μ 5 92 91 (fun x1 => if w64 x1 = w64 1 then (some (.inr (some (zI 0)), μ)) else (if w32 a1 = 0 then (zC (F_Model_dealAt a2 3 μ) (zkI (fun x4 _ => zRd μ 5 92 x4 (fun x5 => if w64 x5 = w64 0 then (zC (F_Model_uncalled a2 μ) (zkJ (fun x7 μ6 => if w64 x7 < w64 (w32 a3) then (some (.inr (some (zI 0)), μ6)) else (some (.inr (some (zI 1)), μ6)))) zX0) else (some (.inr (some (zI 0)), μ))))) zX0) else (if w32 a1 = 1 then (zC (F_Model_dealAt a2 3 μ) (zkI (fun x10 _ => zRd μ 5 92 x10 (fun x11 => if w64 x11 = w64 0 then (some (.inr (some (zI 1)), μ)) else (some (.inr (some (zI 0)), μ))))) zX0) else (if w32 a1 = 2 then (zC (F_Model_dealAt a2 3 μ) (zkI (fun x14 _ => zRd μ 5 92 x14 (fun x15 => if w64 x15 = w64 0 then (some (.inr (some (zI 1)), μ)) else (some (.inr (some (zI 0)), μ))))) zX0) else (if w32 a1 = 3 then (some (.inr (some (zI 1)), μ)) else (if w32 a1 = 4 then (zRd μ 5 92 90 (fun x18 => if w64 200 < w64 (x18 + (w32 a3)) then (some (.inr (some (zI 0)), μ)) else (some (.inr (some (zI 1)), μ)))) else (if w32 a1 = 5 then (zC (F_Model_placeOf a2 4 μ) (zkI (fun x21 _ => zRd μ 5 92 x21 (fun x22 => if w64 x22 = w64 0 then (some (.inr (some (zI 1)), μ)) else (some (.inr (some (zI 0)), μ))))) zX0) else (if w32 a1 = 6 then (zC (F_Model_areClosed  μ) (zkI (fun x25 μ24 => if x25 = 0 ∨ x25 = 1 then some (.inr (some (zI x25)), μ24) else none)) zX0) else (if w32 a1 = 7 then (zC (F_Model_canMove a2 a4 a3 μ) (zkI (fun x28 μ27 => if x28 = 0 ∨ x28 = 1 then some (.inr (some (zI x28)), μ27) else none)) zX0) else (zC (F_Model_dealAt a2 3 μ) (zkI (fun x30 _ => zRd μ 5 92 x30 (fun x31 => if w64 x31 = w64 0 then (some (.inr (some (zI 1)), μ)) else (some (.inr (some (zI 0)), μ))))) zX0)))))))))))
set_option maxRecDepth 100000 in
theorem w_Model_canBe (a1 : Int) (a2 : Int) (a3 : Int) (a4 : Int) (μ : ZMem) : AW cf_Model_canBe S_Model.length S_Model S_Model 0 [(0, zR (some 0)), (1, zI a1), (2, zI a2), (3, zI a3), (4, zI a4)] [] μ 0 0 (F_Model_canBe a1 a2 a3 a4 μ) := by
  unfold F_Model_canBe
  refine AW.aload_n (i := 0) (a := 0) (by decide +kernel) rfl (?_ : AW _ _ _ _ 1 _ _ _ _ _ _)
  refine AW.getI (idx := 96) (ci := 9) (k := 5) (r := 0) (by decide +kernel) rfl rfl rfl (?_ : AW _ _ _ _ 4 _ _ _ _ _ _)
  refine AW.if_eq (off := 15) (tgt := 19) (by decide +kernel) (by decide) (fun _ => ?_) (fun _ => ?_)
  · refine AW.iconst (n := 0) (by decide +kernel) (?_ : AW _ _ _ _ 20 _ _ _ _ _ _)
    exact AW.retb1 (by decide +kernel) rfl (by decide) (by decide) (by decide)
  · refine AW.aload_n (i := 0) (a := 0) (by decide +kernel) rfl (?_ : AW _ _ _ _ 8 _ _ _ _ _ _)
    refine AW.getR (idx := 22) (ci := 9) (k := 7) (r := 0) (by decide +kernel) rfl rfl rfl (?_ : AW _ _ _ _ 11 _ _ _ _ _ _)
    refine AW.bipush (n := 91) (by decide +kernel) (by decide +kernel) (?_ : AW _ _ _ _ 13 _ _ _ _ _ _)
    refine AW.lald (r := 5) (by decide +kernel) rfl (fun x1 => (?_ : AW _ _ _ _ 14 _ _ _ _ _ _))
    refine AW.lconst1 (by decide +kernel) (?_ : AW _ _ _ _ 15 _ _ _ _ _ _)
    refine AW.lcmp_ne (off := 5) (tgt := 21) (by decide +kernel) (by decide +kernel) (by decide) (fun _ => ?_) (fun _ => ?_)
    · refine AW.iconst (n := 0) (by decide +kernel) (?_ : AW _ _ _ _ 20 _ _ _ _ _ _)
      exact AW.retb1 (by decide +kernel) rfl (by decide) (by decide) (by decide)
    · refine AW.iload_n (i := 1) (a := a1) (by decide +kernel) rfl (?_ : AW _ _ _ _ 22 _ _ _ _ _ _)
      refine AW.tswC (dflt := 138) (lo := 0) (hi := 7) (offs := #[46, 138, 138, 78, 80, 103, 124, 129]) (len := 46) (k := 0) (off := 46) (tgt := 68) (by decide +kernel) (by decide) (by decide) rfl (by decide) (fun _ => ?_) (fun h2 => ?_)
      · refine AW.aload_n (i := 0) (a := 0) (by decide +kernel) rfl (?_ : AW _ _ _ _ 69 _ _ _ _ _ _)
        refine AW.getR (idx := 22) (ci := 9) (k := 7) (r := 0) (by decide +kernel) rfl rfl rfl (?_ : AW _ _ _ _ 72 _ _ _ _ _ _)
        refine AW.iload_n (i := 2) (a := a2) (by decide +kernel) rfl (?_ : AW _ _ _ _ 73 _ _ _ _ _ _)
        refine AW.iconst (n := 3) (by decide +kernel) (?_ : AW _ _ _ _ 74 _ _ _ _ _ _)
        refine AW.callP (g := cf_Model_dealAt) (av := [zI a2, zI 3]) (idx := 166) (n := 2) (st := [zR (some 5)]) (by decide +kernel) (fun l hl r hr => c_Model_dealAt l hl a2 3 _ r hr) rfl cal_Model_dealAt rfl (zw3 zm_X9_166 zt_yX9_dealAt zn_X9) ⟨by decide, by decide, by decide, by decide⟩ (Nat.le_of_ble_eq_true rfl) (fun v _ => AW.kI (fun x4 => (?_ : AW _ _ _ _ 77 _ _ _ _ _ _)) v)
        refine AW.lald (r := 5) (by decide +kernel) rfl (fun x5 => (?_ : AW _ _ _ _ 78 _ _ _ _ _ _))
        refine AW.lconst0 (by decide +kernel) (?_ : AW _ _ _ _ 79 _ _ _ _ _ _)
        refine AW.lcmp_ne (off := 18) (tgt := 98) (by decide +kernel) (by decide +kernel) (by decide) (fun _ => ?_) (fun _ => ?_)
        · refine AW.iload_n (i := 3) (a := a3) (by decide +kernel) rfl (?_ : AW _ _ _ _ 84 _ _ _ _ _ _)
          refine AW.i2l (by decide +kernel) (?_ : AW _ _ _ _ 85 _ _ _ _ _ _)
          refine AW.aload_n (i := 0) (a := 0) (by decide +kernel) rfl (?_ : AW _ _ _ _ 86 _ _ _ _ _ _)
          refine AW.iload_n (i := 2) (a := a2) (by decide +kernel) rfl (?_ : AW _ _ _ _ 87 _ _ _ _ _ _)
          refine AW.callVw (g := cf_Model_uncalled) (av := [zI a2]) (b0 := 0) (ci := 9) (idx := 184) (n := 1) (st := [zJ (w32 a3)]) (by decide +kernel) (fun l hl r hr => c_Model_uncalled l hl a2 _ r hr) S_Model_wf rfl cal_Model_uncalled rfl (zw4 zm_X9_184 zi_yX9_uncalled zs_yX9_uncalled zn_X9) rfl rfl ⟨by decide, by decide, by decide, by decide⟩ (Nat.le_of_ble_eq_true rfl) (Or.inl rfl) (fun v μ6 => AW.kJ (fun x7 => (?_ : AW _ _ _ _ 90 _ _ _ _ _ _)) v)
          refine AW.lcmp_gt (off := 7) (tgt := 98) (by decide +kernel) (by decide +kernel) (by decide) (fun _ => ?_) (fun _ => ?_)
          · refine AW.iconst (n := 0) (by decide +kernel) (?_ : AW _ _ _ _ 99 _ _ _ _ _ _)
            exact AW.retb1 (by decide +kernel) rfl (by decide) (by decide) (by decide)
          · refine AW.iconst (n := 1) (by decide +kernel) (?_ : AW _ _ _ _ 95 _ _ _ _ _ _)
            refine AW.goto (off := 4) (tgt := 99) (by decide +kernel) (by decide) ?_
            exact AW.retb1 (by decide +kernel) rfl (by decide) (by decide) (by decide)
        · refine AW.iconst (n := 0) (by decide +kernel) (?_ : AW _ _ _ _ 99 _ _ _ _ _ _)
          exact AW.retb1 (by decide +kernel) rfl (by decide) (by decide) (by decide)
      refine AW.tswC (dflt := 138) (lo := 0) (hi := 7) (offs := #[46, 138, 138, 78, 80, 103, 124, 129]) (len := 46) (k := 1) (off := 138) (tgt := 160) (by decide +kernel) (by decide) (by decide) rfl (by decide) (fun _ => ?_) (fun h8 => ?_)
      · refine AW.aload_n (i := 0) (a := 0) (by decide +kernel) rfl (?_ : AW _ _ _ _ 161 _ _ _ _ _ _)
        refine AW.getR (idx := 22) (ci := 9) (k := 7) (r := 0) (by decide +kernel) rfl rfl rfl (?_ : AW _ _ _ _ 164 _ _ _ _ _ _)
        refine AW.iload_n (i := 2) (a := a2) (by decide +kernel) rfl (?_ : AW _ _ _ _ 165 _ _ _ _ _ _)
        refine AW.iconst (n := 3) (by decide +kernel) (?_ : AW _ _ _ _ 166 _ _ _ _ _ _)
        refine AW.callP (g := cf_Model_dealAt) (av := [zI a2, zI 3]) (idx := 166) (n := 2) (st := [zR (some 5)]) (by decide +kernel) (fun l hl r hr => c_Model_dealAt l hl a2 3 _ r hr) rfl cal_Model_dealAt rfl (zw3 zm_X9_166 zt_yX9_dealAt zn_X9) ⟨by decide, by decide, by decide, by decide⟩ (Nat.le_of_ble_eq_true rfl) (fun v _ => AW.kI (fun x10 => (?_ : AW _ _ _ _ 169 _ _ _ _ _ _)) v)
        refine AW.lald (r := 5) (by decide +kernel) rfl (fun x11 => (?_ : AW _ _ _ _ 170 _ _ _ _ _ _))
        refine AW.lconst0 (by decide +kernel) (?_ : AW _ _ _ _ 171 _ _ _ _ _ _)
        refine AW.lcmp_ne (off := 7) (tgt := 179) (by decide +kernel) (by decide +kernel) (by decide) (fun _ => ?_) (fun _ => ?_)
        · refine AW.iconst (n := 1) (by decide +kernel) (?_ : AW _ _ _ _ 176 _ _ _ _ _ _)
          refine AW.goto (off := 4) (tgt := 180) (by decide +kernel) (by decide) ?_
          exact AW.retb1 (by decide +kernel) rfl (by decide) (by decide) (by decide)
        · refine AW.iconst (n := 0) (by decide +kernel) (?_ : AW _ _ _ _ 180 _ _ _ _ _ _)
          exact AW.retb1 (by decide +kernel) rfl (by decide) (by decide) (by decide)
      refine AW.tswC (dflt := 138) (lo := 0) (hi := 7) (offs := #[46, 138, 138, 78, 80, 103, 124, 129]) (len := 46) (k := 2) (off := 138) (tgt := 160) (by decide +kernel) (by decide) (by decide) rfl (by decide) (fun _ => ?_) (fun h12 => ?_)
      · refine AW.aload_n (i := 0) (a := 0) (by decide +kernel) rfl (?_ : AW _ _ _ _ 161 _ _ _ _ _ _)
        refine AW.getR (idx := 22) (ci := 9) (k := 7) (r := 0) (by decide +kernel) rfl rfl rfl (?_ : AW _ _ _ _ 164 _ _ _ _ _ _)
        refine AW.iload_n (i := 2) (a := a2) (by decide +kernel) rfl (?_ : AW _ _ _ _ 165 _ _ _ _ _ _)
        refine AW.iconst (n := 3) (by decide +kernel) (?_ : AW _ _ _ _ 166 _ _ _ _ _ _)
        refine AW.callP (g := cf_Model_dealAt) (av := [zI a2, zI 3]) (idx := 166) (n := 2) (st := [zR (some 5)]) (by decide +kernel) (fun l hl r hr => c_Model_dealAt l hl a2 3 _ r hr) rfl cal_Model_dealAt rfl (zw3 zm_X9_166 zt_yX9_dealAt zn_X9) ⟨by decide, by decide, by decide, by decide⟩ (Nat.le_of_ble_eq_true rfl) (fun v _ => AW.kI (fun x14 => (?_ : AW _ _ _ _ 169 _ _ _ _ _ _)) v)
        refine AW.lald (r := 5) (by decide +kernel) rfl (fun x15 => (?_ : AW _ _ _ _ 170 _ _ _ _ _ _))
        refine AW.lconst0 (by decide +kernel) (?_ : AW _ _ _ _ 171 _ _ _ _ _ _)
        refine AW.lcmp_ne (off := 7) (tgt := 179) (by decide +kernel) (by decide +kernel) (by decide) (fun _ => ?_) (fun _ => ?_)
        · refine AW.iconst (n := 1) (by decide +kernel) (?_ : AW _ _ _ _ 176 _ _ _ _ _ _)
          refine AW.goto (off := 4) (tgt := 180) (by decide +kernel) (by decide) ?_
          exact AW.retb1 (by decide +kernel) rfl (by decide) (by decide) (by decide)
        · refine AW.iconst (n := 0) (by decide +kernel) (?_ : AW _ _ _ _ 180 _ _ _ _ _ _)
          exact AW.retb1 (by decide +kernel) rfl (by decide) (by decide) (by decide)
      refine AW.tswC (dflt := 138) (lo := 0) (hi := 7) (offs := #[46, 138, 138, 78, 80, 103, 124, 129]) (len := 46) (k := 3) (off := 78) (tgt := 100) (by decide +kernel) (by decide) (by decide) rfl (by decide) (fun _ => ?_) (fun h16 => ?_)
      · refine AW.iconst (n := 1) (by decide +kernel) (?_ : AW _ _ _ _ 101 _ _ _ _ _ _)
        exact AW.retb1 (by decide +kernel) rfl (by decide) (by decide) (by decide)
      refine AW.tswC (dflt := 138) (lo := 0) (hi := 7) (offs := #[46, 138, 138, 78, 80, 103, 124, 129]) (len := 46) (k := 4) (off := 80) (tgt := 102) (by decide +kernel) (by decide) (by decide) rfl (by decide) (fun _ => ?_) (fun h17 => ?_)
      · refine AW.aload_n (i := 0) (a := 0) (by decide +kernel) rfl (?_ : AW _ _ _ _ 103 _ _ _ _ _ _)
        refine AW.getR (idx := 22) (ci := 9) (k := 7) (r := 0) (by decide +kernel) rfl rfl rfl (?_ : AW _ _ _ _ 106 _ _ _ _ _ _)
        refine AW.bipush (n := 90) (by decide +kernel) (by decide +kernel) (?_ : AW _ _ _ _ 108 _ _ _ _ _ _)
        refine AW.lald (r := 5) (by decide +kernel) rfl (fun x18 => (?_ : AW _ _ _ _ 109 _ _ _ _ _ _))
        refine AW.iload_n (i := 3) (a := a3) (by decide +kernel) rfl (?_ : AW _ _ _ _ 110 _ _ _ _ _ _)
        refine AW.i2l (by decide +kernel) (?_ : AW _ _ _ _ 111 _ _ _ _ _ _)
        refine AW.ladd (by decide +kernel) (?_ : AW _ _ _ _ 112 _ _ _ _ _ _)
        refine AW.ldc2 (idx := 220) (v := 200) (by decide +kernel) zk_X9_220 (?_ : AW _ _ _ _ 115 _ _ _ _ _ _)
        refine AW.lcmp_gt (off := 7) (tgt := 123) (by decide +kernel) (by decide +kernel) (by decide) (fun _ => ?_) (fun _ => ?_)
        · refine AW.iconst (n := 0) (by decide +kernel) (?_ : AW _ _ _ _ 124 _ _ _ _ _ _)
          exact AW.retb1 (by decide +kernel) rfl (by decide) (by decide) (by decide)
        · refine AW.iconst (n := 1) (by decide +kernel) (?_ : AW _ _ _ _ 120 _ _ _ _ _ _)
          refine AW.goto (off := 4) (tgt := 124) (by decide +kernel) (by decide) ?_
          exact AW.retb1 (by decide +kernel) rfl (by decide) (by decide) (by decide)
      refine AW.tswC (dflt := 138) (lo := 0) (hi := 7) (offs := #[46, 138, 138, 78, 80, 103, 124, 129]) (len := 46) (k := 5) (off := 103) (tgt := 125) (by decide +kernel) (by decide) (by decide) rfl (by decide) (fun _ => ?_) (fun h19 => ?_)
      · refine AW.aload_n (i := 0) (a := 0) (by decide +kernel) rfl (?_ : AW _ _ _ _ 126 _ _ _ _ _ _)
        refine AW.getR (idx := 22) (ci := 9) (k := 7) (r := 0) (by decide +kernel) rfl rfl rfl (?_ : AW _ _ _ _ 129 _ _ _ _ _ _)
        refine AW.iload_n (i := 2) (a := a2) (by decide +kernel) rfl (?_ : AW _ _ _ _ 130 _ _ _ _ _ _)
        refine AW.iconst (n := 4) (by decide +kernel) (?_ : AW _ _ _ _ 131 _ _ _ _ _ _)
        refine AW.callP (g := cf_Model_placeOf) (av := [zI a2, zI 4]) (idx := 110) (n := 2) (st := [zR (some 5)]) (by decide +kernel) (fun l hl r hr => c_Model_placeOf l hl a2 4 _ r hr) rfl cal_Model_placeOf rfl (zw3 zm_X9_110 zt_yX9_placeOf zn_X9) ⟨by decide, by decide, by decide, by decide⟩ (Nat.le_of_ble_eq_true rfl) (fun v _ => AW.kI (fun x21 => (?_ : AW _ _ _ _ 134 _ _ _ _ _ _)) v)
        refine AW.lald (r := 5) (by decide +kernel) rfl (fun x22 => (?_ : AW _ _ _ _ 135 _ _ _ _ _ _))
        refine AW.lconst0 (by decide +kernel) (?_ : AW _ _ _ _ 136 _ _ _ _ _ _)
        refine AW.lcmp_ne (off := 7) (tgt := 144) (by decide +kernel) (by decide +kernel) (by decide) (fun _ => ?_) (fun _ => ?_)
        · refine AW.iconst (n := 1) (by decide +kernel) (?_ : AW _ _ _ _ 141 _ _ _ _ _ _)
          refine AW.goto (off := 4) (tgt := 145) (by decide +kernel) (by decide) ?_
          exact AW.retb1 (by decide +kernel) rfl (by decide) (by decide) (by decide)
        · refine AW.iconst (n := 0) (by decide +kernel) (?_ : AW _ _ _ _ 145 _ _ _ _ _ _)
          exact AW.retb1 (by decide +kernel) rfl (by decide) (by decide) (by decide)
      refine AW.tswC (dflt := 138) (lo := 0) (hi := 7) (offs := #[46, 138, 138, 78, 80, 103, 124, 129]) (len := 46) (k := 6) (off := 124) (tgt := 146) (by decide +kernel) (by decide) (by decide) rfl (by decide) (fun _ => ?_) (fun h23 => ?_)
      · refine AW.aload_n (i := 0) (a := 0) (by decide +kernel) rfl (?_ : AW _ _ _ _ 147 _ _ _ _ _ _)
        refine AW.callVw (g := cf_Model_areClosed) (av := []) (b0 := 0) (ci := 9) (idx := 222) (n := 0) (st := []) (by decide +kernel) (fun l hl r hr => c_Model_areClosed l hl  _ r hr) S_Model_wf rfl cal_Model_areClosed rfl (zw4 zm_X9_222 zi_yX9_areClosed zs_yX9_areClosed zn_X9) rfl rfl ⟨by decide, by decide, by decide, by decide⟩ (Nat.le_of_ble_eq_true rfl) (Or.inl rfl) (fun v μ24 => AW.kI (fun x25 => (?_ : AW _ _ _ _ 150 _ _ _ _ _ _)) v)
        exact AW.retb (by decide +kernel) rfl (by decide) (by decide)
      refine AW.tswC (dflt := 138) (lo := 0) (hi := 7) (offs := #[46, 138, 138, 78, 80, 103, 124, 129]) (len := 46) (k := 7) (off := 129) (tgt := 151) (by decide +kernel) (by decide) (by decide) rfl (by decide) (fun _ => ?_) (fun h26 => ?_)
      · refine AW.aload_n (i := 0) (a := 0) (by decide +kernel) rfl (?_ : AW _ _ _ _ 152 _ _ _ _ _ _)
        refine AW.iload_n (i := 2) (a := a2) (by decide +kernel) rfl (?_ : AW _ _ _ _ 153 _ _ _ _ _ _)
        refine AW.iload (i := 4) (a := a4) (by decide +kernel) rfl (?_ : AW _ _ _ _ 155 _ _ _ _ _ _)
        refine AW.iload_n (i := 3) (a := a3) (by decide +kernel) rfl (?_ : AW _ _ _ _ 156 _ _ _ _ _ _)
        refine AW.callVw (g := cf_Model_canMove) (av := [zI a2, zI a4, zI a3]) (b0 := 0) (ci := 9) (idx := 225) (n := 3) (st := []) (by decide +kernel) (fun l hl r hr => c_Model_canMove l hl a2 a4 a3 _ r hr) S_Model_wf rfl cal_Model_canMove rfl (zw4 zm_X9_225 zi_yX9_canMove zs_yX9_canMove zn_X9) rfl rfl ⟨by decide, by decide, by decide, by decide⟩ (Nat.le_of_ble_eq_true rfl) (Or.inl rfl) (fun v μ27 => AW.kI (fun x28 => (?_ : AW _ _ _ _ 159 _ _ _ _ _ _)) v)
        exact AW.retb (by decide +kernel) rfl (by decide) (by decide)
      refine AW.tswD (dflt := 138) (lo := 0) (hi := 7) (offs := #[46, 138, 138, 78, 80, 103, 124, 129]) (len := 46) (tgt := 160) (by decide +kernel) (by omega) (by decide) ?_
      refine AW.aload_n (i := 0) (a := 0) (by decide +kernel) rfl (?_ : AW _ _ _ _ 161 _ _ _ _ _ _)
      refine AW.getR (idx := 22) (ci := 9) (k := 7) (r := 0) (by decide +kernel) rfl rfl rfl (?_ : AW _ _ _ _ 164 _ _ _ _ _ _)
      refine AW.iload_n (i := 2) (a := a2) (by decide +kernel) rfl (?_ : AW _ _ _ _ 165 _ _ _ _ _ _)
      refine AW.iconst (n := 3) (by decide +kernel) (?_ : AW _ _ _ _ 166 _ _ _ _ _ _)
      refine AW.callP (g := cf_Model_dealAt) (av := [zI a2, zI 3]) (idx := 166) (n := 2) (st := [zR (some 5)]) (by decide +kernel) (fun l hl r hr => c_Model_dealAt l hl a2 3 _ r hr) rfl cal_Model_dealAt rfl (zw3 zm_X9_166 zt_yX9_dealAt zn_X9) ⟨by decide, by decide, by decide, by decide⟩ (Nat.le_of_ble_eq_true rfl) (fun v _ => AW.kI (fun x30 => (?_ : AW _ _ _ _ 169 _ _ _ _ _ _)) v)
      refine AW.lald (r := 5) (by decide +kernel) rfl (fun x31 => (?_ : AW _ _ _ _ 170 _ _ _ _ _ _))
      refine AW.lconst0 (by decide +kernel) (?_ : AW _ _ _ _ 171 _ _ _ _ _ _)
      refine AW.lcmp_ne (off := 7) (tgt := 179) (by decide +kernel) (by decide +kernel) (by decide) (fun _ => ?_) (fun _ => ?_)
      · refine AW.iconst (n := 1) (by decide +kernel) (?_ : AW _ _ _ _ 176 _ _ _ _ _ _)
        refine AW.goto (off := 4) (tgt := 180) (by decide +kernel) (by decide) ?_
        exact AW.retb1 (by decide +kernel) rfl (by decide) (by decide) (by decide)
      · refine AW.iconst (n := 0) (by decide +kernel) (?_ : AW _ _ _ _ 180 _ _ _ _ _ _)
        exact AW.retb1 (by decide +kernel) rfl (by decide) (by decide) (by decide)
theorem c_Model_canBe (l : Launch) (hl : l.stackTraces = false) (a1 : Int) (a2 : Int) (a3 : Int) (a4 : Int) (μ : ZMem) (r : ZRes) (h : F_Model_canBe a1 a2 a3 a4 μ = some r) : ZC l cf_Model_canBe S_Model S_Model [zR (some 0), zI a1, zI a2, zI a3, zI a4] μ r := ZC.of hl (by decide +kernel) rfl rfl zft_X9_ok (Nat.le_of_ble_eq_true rfl) h (w_Model_canBe a1 a2 a3 a4 μ)
/-! WeirLedgerModel.writesDown(IIII)V -/
def cf_Model_writesDown : ZCf := (yX9_writesDown, cX9_writesDown, 6, none, [], 9, 0, 0, zft_X9, none)
theorem cal_Model_writesDown : zCallee cf_Model_writesDown 4 := ⟨rfl, zc_yX9_writesDown, by decide, by decide, by decide +kernel⟩
def F_Model_writesDown (a1 : Int) (a2 : Int) (a3 : Int) (a4 : Int) (μ : ZMem) : Option ZRes := zLet ((5 * (μ 0 11))) (fun x1 => zWr μ 8 300 x1 a1 (fun μ2 => zWr μ2 8 300 (x1 + 1) a2 (fun μ3 => zWr μ3 8 300 (x1 + 2) a3 (fun μ4 => zRd μ4 5 92 90 (fun x5 => zWr μ4 8 300 (x1 + 3) x5 (fun μ6 => zWr μ6 8 300 (x1 + 4) a4 (fun μ7 => zLet (zUp μ7 0 11 ((μ7 0 11) + 1)) (fun μ8 => zC (F_Model_doesAgain ((μ8 0 11) - 1) ((μ8 0 11) - 1) μ8) (zkV (fun μ9 => some (.inr none, μ9))) zX0))))))))
set_option maxRecDepth 100000 in
theorem w_Model_writesDown (a1 : Int) (a2 : Int) (a3 : Int) (a4 : Int) (μ : ZMem) : AW cf_Model_writesDown S_Model.length S_Model S_Model 0 [(0, zR (some 0)), (1, zI a1), (2, zI a2), (3, zI a3), (4, zI a4)] [] μ 0 0 (F_Model_writesDown a1 a2 a3 a4 μ) := by
  unfold F_Model_writesDown
  refine AW.iconst (n := 5) (by decide +kernel) (?_ : AW _ _ _ _ 1 _ _ _ _ _ _)
  refine AW.aload_n (i := 0) (a := 0) (by decide +kernel) rfl (?_ : AW _ _ _ _ 2 _ _ _ _ _ _)
  refine AW.getI (idx := 116) (ci := 9) (k := 11) (r := 0) (by decide +kernel) rfl rfl rfl (?_ : AW _ _ _ _ 5 _ _ _ _ _ _)
  refine AW.imul (by decide +kernel) (?_ : AW _ _ _ _ 6 _ _ _ _ _ _)
  refine AW.istoreL (i := 5) (L' := fun x1 => [(5, zI x1), (0, zR (some 0)), (1, zI a1), (2, zI a2), (3, zI a3), (4, zI a4)]) (by decide +kernel) (by decide) (fun _ => rfl) (fun x1 => (?_ : AW _ _ _ _ 8 _ _ _ _ _ _))
  refine AW.aload_n (i := 0) (a := 0) (by decide +kernel) rfl (?_ : AW _ _ _ _ 9 _ _ _ _ _ _)
  refine AW.getR (idx := 32) (ci := 9) (k := 10) (r := 0) (by decide +kernel) rfl rfl rfl (?_ : AW _ _ _ _ 12 _ _ _ _ _ _)
  refine AW.iload (i := 5) (a := x1) (by decide +kernel) rfl (?_ : AW _ _ _ _ 14 _ _ _ _ _ _)
  refine AW.iload_n (i := 1) (a := a1) (by decide +kernel) rfl (?_ : AW _ _ _ _ 15 _ _ _ _ _ _)
  refine AW.iastL (r := 8) (by decide +kernel) rfl (fun μ2 => (?_ : AW _ _ _ _ 16 _ _ _ _ _ _))
  refine AW.aload_n (i := 0) (a := 0) (by decide +kernel) rfl (?_ : AW _ _ _ _ 17 _ _ _ _ _ _)
  refine AW.getR (idx := 32) (ci := 9) (k := 10) (r := 0) (by decide +kernel) rfl rfl rfl (?_ : AW _ _ _ _ 20 _ _ _ _ _ _)
  refine AW.iload (i := 5) (a := x1) (by decide +kernel) rfl (?_ : AW _ _ _ _ 22 _ _ _ _ _ _)
  refine AW.iconst (n := 1) (by decide +kernel) (?_ : AW _ _ _ _ 23 _ _ _ _ _ _)
  refine AW.iadd (by decide +kernel) (?_ : AW _ _ _ _ 24 _ _ _ _ _ _)
  refine AW.iload_n (i := 2) (a := a2) (by decide +kernel) rfl (?_ : AW _ _ _ _ 25 _ _ _ _ _ _)
  refine AW.iastL (r := 8) (by decide +kernel) rfl (fun μ3 => (?_ : AW _ _ _ _ 26 _ _ _ _ _ _))
  refine AW.aload_n (i := 0) (a := 0) (by decide +kernel) rfl (?_ : AW _ _ _ _ 27 _ _ _ _ _ _)
  refine AW.getR (idx := 32) (ci := 9) (k := 10) (r := 0) (by decide +kernel) rfl rfl rfl (?_ : AW _ _ _ _ 30 _ _ _ _ _ _)
  refine AW.iload (i := 5) (a := x1) (by decide +kernel) rfl (?_ : AW _ _ _ _ 32 _ _ _ _ _ _)
  refine AW.iconst (n := 2) (by decide +kernel) (?_ : AW _ _ _ _ 33 _ _ _ _ _ _)
  refine AW.iadd (by decide +kernel) (?_ : AW _ _ _ _ 34 _ _ _ _ _ _)
  refine AW.iload_n (i := 3) (a := a3) (by decide +kernel) rfl (?_ : AW _ _ _ _ 35 _ _ _ _ _ _)
  refine AW.iastL (r := 8) (by decide +kernel) rfl (fun μ4 => (?_ : AW _ _ _ _ 36 _ _ _ _ _ _))
  refine AW.aload_n (i := 0) (a := 0) (by decide +kernel) rfl (?_ : AW _ _ _ _ 37 _ _ _ _ _ _)
  refine AW.getR (idx := 32) (ci := 9) (k := 10) (r := 0) (by decide +kernel) rfl rfl rfl (?_ : AW _ _ _ _ 40 _ _ _ _ _ _)
  refine AW.iload (i := 5) (a := x1) (by decide +kernel) rfl (?_ : AW _ _ _ _ 42 _ _ _ _ _ _)
  refine AW.iconst (n := 3) (by decide +kernel) (?_ : AW _ _ _ _ 43 _ _ _ _ _ _)
  refine AW.iadd (by decide +kernel) (?_ : AW _ _ _ _ 44 _ _ _ _ _ _)
  refine AW.aload_n (i := 0) (a := 0) (by decide +kernel) rfl (?_ : AW _ _ _ _ 45 _ _ _ _ _ _)
  refine AW.getR (idx := 22) (ci := 9) (k := 7) (r := 0) (by decide +kernel) rfl rfl rfl (?_ : AW _ _ _ _ 48 _ _ _ _ _ _)
  refine AW.bipush (n := 90) (by decide +kernel) (by decide +kernel) (?_ : AW _ _ _ _ 50 _ _ _ _ _ _)
  refine AW.lald (r := 5) (by decide +kernel) rfl (fun x5 => (?_ : AW _ _ _ _ 51 _ _ _ _ _ _))
  refine AW.l2i (by decide +kernel) (?_ : AW _ _ _ _ 52 _ _ _ _ _ _)
  refine AW.iastL (r := 8) (by decide +kernel) rfl (fun μ6 => (?_ : AW _ _ _ _ 53 _ _ _ _ _ _))
  refine AW.aload_n (i := 0) (a := 0) (by decide +kernel) rfl (?_ : AW _ _ _ _ 54 _ _ _ _ _ _)
  refine AW.getR (idx := 32) (ci := 9) (k := 10) (r := 0) (by decide +kernel) rfl rfl rfl (?_ : AW _ _ _ _ 57 _ _ _ _ _ _)
  refine AW.iload (i := 5) (a := x1) (by decide +kernel) rfl (?_ : AW _ _ _ _ 59 _ _ _ _ _ _)
  refine AW.iconst (n := 4) (by decide +kernel) (?_ : AW _ _ _ _ 60 _ _ _ _ _ _)
  refine AW.iadd (by decide +kernel) (?_ : AW _ _ _ _ 61 _ _ _ _ _ _)
  refine AW.iload (i := 4) (a := a4) (by decide +kernel) rfl (?_ : AW _ _ _ _ 63 _ _ _ _ _ _)
  refine AW.iastL (r := 8) (by decide +kernel) rfl (fun μ7 => (?_ : AW _ _ _ _ 64 _ _ _ _ _ _))
  refine AW.aload_n (i := 0) (a := 0) (by decide +kernel) rfl (?_ : AW _ _ _ _ 65 _ _ _ _ _ _)
  refine AW.dup (by decide +kernel) rfl (?_ : AW _ _ _ _ 66 _ _ _ _ _ _)
  refine AW.getI (idx := 116) (ci := 9) (k := 11) (r := 0) (by decide +kernel) rfl rfl rfl (?_ : AW _ _ _ _ 69 _ _ _ _ _ _)
  refine AW.iconst (n := 1) (by decide +kernel) (?_ : AW _ _ _ _ 70 _ _ _ _ _ _)
  refine AW.iadd (by decide +kernel) (?_ : AW _ _ _ _ 71 _ _ _ _ _ _)
  refine AW.putiL (idx := 116) (ci := 9) (k := 11) (r := 0) (by decide +kernel) rfl rfl rfl (fun μ8 => (?_ : AW _ _ _ _ 74 _ _ _ _ _ _))
  refine AW.aload_n (i := 0) (a := 0) (by decide +kernel) rfl (?_ : AW _ _ _ _ 75 _ _ _ _ _ _)
  refine AW.aload_n (i := 0) (a := 0) (by decide +kernel) rfl (?_ : AW _ _ _ _ 76 _ _ _ _ _ _)
  refine AW.getI (idx := 116) (ci := 9) (k := 11) (r := 0) (by decide +kernel) rfl rfl rfl (?_ : AW _ _ _ _ 79 _ _ _ _ _ _)
  refine AW.iconst (n := 1) (by decide +kernel) (?_ : AW _ _ _ _ 80 _ _ _ _ _ _)
  refine AW.isub (by decide +kernel) (?_ : AW _ _ _ _ 81 _ _ _ _ _ _)
  refine AW.aload_n (i := 0) (a := 0) (by decide +kernel) rfl (?_ : AW _ _ _ _ 82 _ _ _ _ _ _)
  refine AW.getI (idx := 116) (ci := 9) (k := 11) (r := 0) (by decide +kernel) rfl rfl rfl (?_ : AW _ _ _ _ 85 _ _ _ _ _ _)
  refine AW.iconst (n := 1) (by decide +kernel) (?_ : AW _ _ _ _ 86 _ _ _ _ _ _)
  refine AW.isub (by decide +kernel) (?_ : AW _ _ _ _ 87 _ _ _ _ _ _)
  refine AW.callVw (g := cf_Model_doesAgain) (av := [zI ((μ8 0 11) - 1), zI ((μ8 0 11) - 1)]) (b0 := 0) (ci := 9) (idx := 119) (n := 2) (st := []) (by decide +kernel) (fun l hl r hr => c_Model_doesAgain l hl ((μ8 0 11) - 1) ((μ8 0 11) - 1) _ r hr) S_Model_wf rfl cal_Model_doesAgain rfl (zw4 zm_X9_119 zi_yX9_doesAgain zs_yX9_doesAgain zn_X9) rfl rfl ⟨by decide, by decide, by decide, by decide⟩ (Nat.le_of_ble_eq_true rfl) (Or.inl rfl) (fun v μ9 => AW.kV (?_ : AW _ _ _ _ 90 _ _ _ _ _ _) v)
  exact AW.retv (by decide +kernel) rfl (by decide) (by decide)
theorem c_Model_writesDown (l : Launch) (hl : l.stackTraces = false) (a1 : Int) (a2 : Int) (a3 : Int) (a4 : Int) (μ : ZMem) (r : ZRes) (h : F_Model_writesDown a1 a2 a3 a4 μ = some r) : ZC l cf_Model_writesDown S_Model S_Model [zR (some 0), zI a1, zI a2, zI a3, zI a4] μ r := ZC.of hl (by decide +kernel) rfl rfl zft_X9_ok (Nat.le_of_ble_eq_true rfl) h (w_Model_writesDown a1 a2 a3 a4 μ)
/-! WeirLedgerModel.acts(IIIII)Z -/
def cf_Model_acts : ZCf := (yX9_acts, cX9_acts, 6, some .boolean, [], 10, 0, 0, zft_X9, none)
theorem cal_Model_acts : zCallee cf_Model_acts 5 := ⟨rfl, zc_yX9_acts, by decide, by decide, by decide +kernel⟩
def J_Model_acts_35 (a1 : Int) (a2 : Int) (a3 : Int) (a4 : Int) (y0 : Int) (μ : ZMem) : Option ZRes := zLet (zUp μ 0 0 y0) (fun μ3 => if w32 (μ3 0 0) ≤ 0 then (zC (F_Model_writesDown a1 a2 a3 a4 μ3) (zkV (fun μ4 => some (.inr (some (zI 1)), μ4))) zX0) else (some (.inr (some (zI 0)), μ3)))
set_option maxRecDepth 100000 in
theorem j_Model_acts_35 (a1 : Int) (a2 : Int) (a3 : Int) (a4 : Int) (y0 : Int) (μ : ZMem) : AW cf_Model_acts S_Model.length S_Model S_Model 35 [(0, zR (some 0)), (1, zI a1), (2, zI a2), (3, zI a3), (4, zI a4)] [zI y0, zR (some 0)] μ 0 0 (J_Model_acts_35 a1 a2 a3 a4 y0 μ) := by
  unfold J_Model_acts_35
  refine AW.putiL (idx := 93) (ci := 9) (k := 0) (r := 0) (by decide +kernel) rfl rfl rfl (fun μ3 => (?_ : AW _ _ _ _ 38 _ _ _ _ _ _))
  refine AW.aload_n (i := 0) (a := 0) (by decide +kernel) rfl (?_ : AW _ _ _ _ 39 _ _ _ _ _ _)
  refine AW.getI (idx := 93) (ci := 9) (k := 0) (r := 0) (by decide +kernel) rfl rfl rfl (?_ : AW _ _ _ _ 42 _ _ _ _ _ _)
  refine AW.if_le (off := 5) (tgt := 47) (by decide +kernel) (by decide) (fun _ => ?_) (fun _ => ?_)
  · refine AW.aload_n (i := 0) (a := 0) (by decide +kernel) rfl (?_ : AW _ _ _ _ 48 _ _ _ _ _ _)
    refine AW.iload_n (i := 1) (a := a1) (by decide +kernel) rfl (?_ : AW _ _ _ _ 49 _ _ _ _ _ _)
    refine AW.iload_n (i := 2) (a := a2) (by decide +kernel) rfl (?_ : AW _ _ _ _ 50 _ _ _ _ _ _)
    refine AW.iload_n (i := 3) (a := a3) (by decide +kernel) rfl (?_ : AW _ _ _ _ 51 _ _ _ _ _ _)
    refine AW.iload (i := 4) (a := a4) (by decide +kernel) rfl (?_ : AW _ _ _ _ 53 _ _ _ _ _ _)
    refine AW.callVw (g := cf_Model_writesDown) (av := [zI a1, zI a2, zI a3, zI a4]) (b0 := 0) (ci := 9) (idx := 233) (n := 4) (st := []) (by decide +kernel) (fun l hl r hr => c_Model_writesDown l hl a1 a2 a3 a4 _ r hr) S_Model_wf rfl cal_Model_writesDown rfl (zw4 zm_X9_233 zi_yX9_writesDown zs_yX9_writesDown zn_X9) rfl rfl ⟨by decide, by decide, by decide, by decide⟩ (Nat.le_of_ble_eq_true rfl) (Or.inl rfl) (fun v μ4 => AW.kV (?_ : AW _ _ _ _ 56 _ _ _ _ _ _) v)
    refine AW.iconst (n := 1) (by decide +kernel) (?_ : AW _ _ _ _ 57 _ _ _ _ _ _)
    exact AW.retb1 (by decide +kernel) rfl (by decide) (by decide) (by decide)
  · refine AW.iconst (n := 0) (by decide +kernel) (?_ : AW _ _ _ _ 46 _ _ _ _ _ _)
    exact AW.retb1 (by decide +kernel) rfl (by decide) (by decide) (by decide)
def F_Model_acts (a1 : Int) (a2 : Int) (a3 : Int) (a4 : Int) (a5 : Int) (μ : ZMem) : Option ZRes := zC (F_Model_canBe a1 a2 a3 a4 μ) (zkI (fun x2 μ1 => if w32 x2 = 0 then (J_Model_acts_35 a1 a2 a3 a4 a5 μ1) else (if w32 (μ1 0 11) = w32 60 then (J_Model_acts_35 a1 a2 a3 a4 (a5 + 1) μ1) else (J_Model_acts_35 a1 a2 a3 a4 0 μ1)))) zX0
set_option maxRecDepth 100000 in
theorem w_Model_acts (a1 : Int) (a2 : Int) (a3 : Int) (a4 : Int) (a5 : Int) (μ : ZMem) : AW cf_Model_acts S_Model.length S_Model S_Model 0 [(0, zR (some 0)), (1, zI a1), (2, zI a2), (3, zI a3), (4, zI a4), (5, zI a5)] [] μ 0 0 (F_Model_acts a1 a2 a3 a4 a5 μ) := by
  unfold F_Model_acts
  refine AW.aload_n (i := 0) (a := 0) (by decide +kernel) rfl (?_ : AW _ _ _ _ 1 _ _ _ _ _ _)
  refine AW.aload_n (i := 0) (a := 0) (by decide +kernel) rfl (?_ : AW _ _ _ _ 2 _ _ _ _ _ _)
  refine AW.iload_n (i := 1) (a := a1) (by decide +kernel) rfl (?_ : AW _ _ _ _ 3 _ _ _ _ _ _)
  refine AW.iload_n (i := 2) (a := a2) (by decide +kernel) rfl (?_ : AW _ _ _ _ 4 _ _ _ _ _ _)
  refine AW.iload_n (i := 3) (a := a3) (by decide +kernel) rfl (?_ : AW _ _ _ _ 5 _ _ _ _ _ _)
  refine AW.iload (i := 4) (a := a4) (by decide +kernel) rfl (?_ : AW _ _ _ _ 7 _ _ _ _ _ _)
  refine AW.callVw (g := cf_Model_canBe) (av := [zI a1, zI a2, zI a3, zI a4]) (b0 := 0) (ci := 9) (idx := 229) (n := 4) (st := [zR (some 0)]) (by decide +kernel) (fun l hl r hr => c_Model_canBe l hl a1 a2 a3 a4 _ r hr) S_Model_wf rfl cal_Model_canBe rfl (zw4 zm_X9_229 zi_yX9_canBe zs_yX9_canBe zn_X9) rfl rfl ⟨by decide, by decide, by decide, by decide⟩ (Nat.le_of_ble_eq_true rfl) (Or.inl rfl) (fun v μ1 => AW.kI (fun x2 => (?_ : AW _ _ _ _ 10 _ _ _ _ _ _)) v)
  refine AW.if_ne (off := 8) (tgt := 18) (by decide +kernel) (by decide) (fun _ => ?_) (fun _ => ?_)
  · refine AW.iload (i := 5) (a := a5) (by decide +kernel) rfl (?_ : AW _ _ _ _ 15 _ _ _ _ _ _)
    refine AW.goto (off := 20) (tgt := 35) (by decide +kernel) (by decide) ?_
    refine AW.sub (L' := [(0, zR (some 0)), (1, zI a1), (2, zI a2), (3, zI a3), (4, zI a4)]) [0, 1, 2, 3, 4] rfl ?_
    exact j_Model_acts_35 a1 a2 a3 a4 a5 μ1
  · refine AW.aload_n (i := 0) (a := 0) (by decide +kernel) rfl (?_ : AW _ _ _ _ 19 _ _ _ _ _ _)
    refine AW.getI (idx := 116) (ci := 9) (k := 11) (r := 0) (by decide +kernel) rfl rfl rfl (?_ : AW _ _ _ _ 22 _ _ _ _ _ _)
    refine AW.bipush (n := 60) (by decide +kernel) (by decide +kernel) (?_ : AW _ _ _ _ 24 _ _ _ _ _ _)
    refine AW.icmp_ne (off := 10) (tgt := 34) (by decide +kernel) (by decide) (fun _ => ?_) (fun _ => ?_)
    · refine AW.iload (i := 5) (a := a5) (by decide +kernel) rfl (?_ : AW _ _ _ _ 29 _ _ _ _ _ _)
      refine AW.iconst (n := 1) (by decide +kernel) (?_ : AW _ _ _ _ 30 _ _ _ _ _ _)
      refine AW.iadd (by decide +kernel) (?_ : AW _ _ _ _ 31 _ _ _ _ _ _)
      refine AW.goto (off := 4) (tgt := 35) (by decide +kernel) (by decide) ?_
      refine AW.sub (L' := [(0, zR (some 0)), (1, zI a1), (2, zI a2), (3, zI a3), (4, zI a4)]) [0, 1, 2, 3, 4] rfl ?_
      exact j_Model_acts_35 a1 a2 a3 a4 (a5 + 1) μ1
    · refine AW.iconst (n := 0) (by decide +kernel) (?_ : AW _ _ _ _ 35 _ _ _ _ _ _)
      refine AW.sub (L' := [(0, zR (some 0)), (1, zI a1), (2, zI a2), (3, zI a3), (4, zI a4)]) [0, 1, 2, 3, 4] rfl ?_
      exact j_Model_acts_35 a1 a2 a3 a4 0 μ1
theorem c_Model_acts (l : Launch) (hl : l.stackTraces = false) (a1 : Int) (a2 : Int) (a3 : Int) (a4 : Int) (a5 : Int) (μ : ZMem) (r : ZRes) (h : F_Model_acts a1 a2 a3 a4 a5 μ = some r) : ZC l cf_Model_acts S_Model S_Model [zR (some 0), zI a1, zI a2, zI a3, zI a4, zI a5] μ r := ZC.of hl (by decide +kernel) rfl rfl zft_X9_ok (Nat.le_of_ble_eq_true rfl) h (w_Model_acts a1 a2 a3 a4 a5 μ)
/-! WeirLedgerModel.feed(IIIII)I -/
def cf_Model_feed : ZCf := (yX9_feed, cX9_feed, 8, some .int, [], 2, 0, 0, zft_X9, none)
theorem cal_Model_feed : zCallee cf_Model_feed 5 := ⟨rfl, zc_yX9_feed, by decide, by decide, by decide +kernel⟩
def J_Model_feed_76 (R : Int → ZMem → Option ZRes) (K : ZMem → Option ZRes) (c1 : Int) (c2 : Int) (c3 : Int) (c4 : Int) (c5 : Int) (u6 : Int) (y0 : Int) (μ : ZMem) : Option ZRes := zWr μ 15 400 (μ 0 21) (zand (zushr y0 (24 - (8 * ((w32 u6).tmod (w32 4))))) 255) (fun μ2 => zLet (zUp μ2 0 21 ((μ2 0 21) + 1)) (fun μ3 => zLet (u6 + 1) (fun x4 => R x4 μ3)))
set_option maxRecDepth 100000 in
theorem j_Model_feed_76 {R : Int → ZMem → Option ZRes} {K : ZMem → Option ZRes} (c1 : Int) (c2 : Int) (c3 : Int) (c4 : Int) (c5 : Int) (hR : ∀ (v6 : Int) (μ : ZMem), AW cf_Model_feed S_Model.length S_Model S_Model 23 [(0, zR (some 0)), (1, zI c1), (2, zI c2), (3, zI c3), (4, zI c4), (5, zI c5), (6, zI v6)] [] μ 0 0 (R v6 μ)) (hK : ∀ (μ : ZMem), AW cf_Model_feed S_Model.length S_Model S_Model 120 [(0, zR (some 0))] [] μ 0 0 (K μ)) (u6 : Int) (y0 : Int) (μ : ZMem) : AW cf_Model_feed S_Model.length S_Model S_Model 76 [(0, zR (some 0)), (1, zI c1), (2, zI c2), (3, zI c3), (4, zI c4), (5, zI c5), (6, zI u6)] [zI y0] μ 0 0 (J_Model_feed_76 R K c1 c2 c3 c4 c5 u6 y0 μ) := by
  unfold J_Model_feed_76
  refine AW.istore' (i := 7) (L' := [(7, zI y0), (0, zR (some 0)), (1, zI c1), (2, zI c2), (3, zI c3), (4, zI c4), (5, zI c5), (6, zI u6)]) (by decide +kernel) (by decide) rfl (?_ : AW _ _ _ _ 78 _ _ _ _ _ _)
  refine AW.aload_n (i := 0) (a := 0) (by decide +kernel) rfl (?_ : AW _ _ _ _ 79 _ _ _ _ _ _)
  refine AW.getR (idx := 57) (ci := 9) (k := 20) (r := 0) (by decide +kernel) rfl rfl rfl (?_ : AW _ _ _ _ 82 _ _ _ _ _ _)
  refine AW.aload_n (i := 0) (a := 0) (by decide +kernel) rfl (?_ : AW _ _ _ _ 83 _ _ _ _ _ _)
  refine AW.getI (idx := 236) (ci := 9) (k := 21) (r := 0) (by decide +kernel) rfl rfl rfl (?_ : AW _ _ _ _ 86 _ _ _ _ _ _)
  refine AW.iload (i := 7) (a := y0) (by decide +kernel) rfl (?_ : AW _ _ _ _ 88 _ _ _ _ _ _)
  refine AW.bipush (n := 24) (by decide +kernel) (by decide +kernel) (?_ : AW _ _ _ _ 90 _ _ _ _ _ _)
  refine AW.bipush (n := 8) (by decide +kernel) (by decide +kernel) (?_ : AW _ _ _ _ 92 _ _ _ _ _ _)
  refine AW.iload (i := 6) (a := u6) (by decide +kernel) rfl (?_ : AW _ _ _ _ 94 _ _ _ _ _ _)
  refine AW.iconst (n := 4) (by decide +kernel) (?_ : AW _ _ _ _ 95 _ _ _ _ _ _)
  refine AW.irem (by decide +kernel) (by decide +kernel) (?_ : AW _ _ _ _ 96 _ _ _ _ _ _)
  refine AW.imul (by decide +kernel) (?_ : AW _ _ _ _ 97 _ _ _ _ _ _)
  refine AW.isub (by decide +kernel) (?_ : AW _ _ _ _ 98 _ _ _ _ _ _)
  refine AW.iushr (by decide +kernel) (?_ : AW _ _ _ _ 99 _ _ _ _ _ _)
  refine AW.sipush (n := 255) (by decide +kernel) (by decide +kernel) (?_ : AW _ _ _ _ 102 _ _ _ _ _ _)
  refine AW.iand (by decide +kernel) (?_ : AW _ _ _ _ 103 _ _ _ _ _ _)
  refine AW.iastL (r := 15) (by decide +kernel) rfl (fun μ2 => (?_ : AW _ _ _ _ 104 _ _ _ _ _ _))
  refine AW.aload_n (i := 0) (a := 0) (by decide +kernel) rfl (?_ : AW _ _ _ _ 105 _ _ _ _ _ _)
  refine AW.dup (by decide +kernel) rfl (?_ : AW _ _ _ _ 106 _ _ _ _ _ _)
  refine AW.getI (idx := 236) (ci := 9) (k := 21) (r := 0) (by decide +kernel) rfl rfl rfl (?_ : AW _ _ _ _ 109 _ _ _ _ _ _)
  refine AW.iconst (n := 1) (by decide +kernel) (?_ : AW _ _ _ _ 110 _ _ _ _ _ _)
  refine AW.iadd (by decide +kernel) (?_ : AW _ _ _ _ 111 _ _ _ _ _ _)
  refine AW.putiL (idx := 236) (ci := 9) (k := 21) (r := 0) (by decide +kernel) rfl rfl rfl (fun μ3 => (?_ : AW _ _ _ _ 114 _ _ _ _ _ _))
  refine AW.iincL (i := 6) (n := 1) (a := u6) (L' := fun x4 => [(6, zI x4), (7, zI y0), (0, zR (some 0)), (1, zI c1), (2, zI c2), (3, zI c3), (4, zI c4), (5, zI c5)]) (by decide +kernel) rfl (by decide) (fun _ => rfl) (fun x4 => (?_ : AW _ _ _ _ 117 _ _ _ _ _ _))
  refine AW.goto (off := -94) (tgt := 23) (by decide +kernel) (by decide) ?_
  refine AW.sub (L' := [(0, zR (some 0)), (1, zI c1), (2, zI c2), (3, zI c3), (4, zI c4), (5, zI c5), (6, zI x4)]) [2, 3, 4, 5, 6, 7, 0] rfl ?_
  exact hR x4 μ3
def L_Model_feed_23 (c1 : Int) (c2 : Int) (c3 : Int) (c4 : Int) (c5 : Int) (K : ZMem → Option ZRes) : Nat → Int → ZMem → Option ZRes
  | 0, _, _ => none
  | n + 1, v6, μ => if w32 20 ≤ w32 v6 then (K  μ) else (if w32 4 ≤ w32 v6 then (if w32 8 ≤ w32 v6 then (if w32 12 ≤ w32 v6 then (if w32 16 ≤ w32 v6 then (J_Model_feed_76 (fun v6 μ => L_Model_feed_23 c1 c2 c3 c4 c5 K n v6 μ) K c1 c2 c3 c4 c5 v6 c5 μ) else (J_Model_feed_76 (fun v6 μ => L_Model_feed_23 c1 c2 c3 c4 c5 K n v6 μ) K c1 c2 c3 c4 c5 v6 c4 μ)) else (J_Model_feed_76 (fun v6 μ => L_Model_feed_23 c1 c2 c3 c4 c5 K n v6 μ) K c1 c2 c3 c4 c5 v6 c3 μ)) else (J_Model_feed_76 (fun v6 μ => L_Model_feed_23 c1 c2 c3 c4 c5 K n v6 μ) K c1 c2 c3 c4 c5 v6 c2 μ)) else (J_Model_feed_76 (fun v6 μ => L_Model_feed_23 c1 c2 c3 c4 c5 K n v6 μ) K c1 c2 c3 c4 c5 v6 c1 μ))
set_option maxRecDepth 100000 in
theorem l_Model_feed_23 {c1 : Int} {c2 : Int} {c3 : Int} {c4 : Int} {c5 : Int} {K : ZMem → Option ZRes} (hK : ∀ (μ : ZMem), AW cf_Model_feed S_Model.length S_Model S_Model 120 [(0, zR (some 0))] [] μ 0 0 (K μ)) : ∀ (n : Nat) (v6 : Int) (μ : ZMem), AW cf_Model_feed S_Model.length S_Model S_Model 23 [(0, zR (some 0)), (1, zI c1), (2, zI c2), (3, zI c3), (4, zI c4), (5, zI c5), (6, zI v6)] [] μ 0 0 (L_Model_feed_23 c1 c2 c3 c4 c5 K n v6 μ) := by
  intro n
  induction n with
  | zero => intro v6 μ; exact AW.noth
  | succ n ih =>
    intro v6 μ
    rw [L_Model_feed_23]
    refine AW.iload (i := 6) (a := v6) (by decide +kernel) rfl (?_ : AW _ _ _ _ 25 _ _ _ _ _ _)
    refine AW.bipush (n := 20) (by decide +kernel) (by decide +kernel) (?_ : AW _ _ _ _ 27 _ _ _ _ _ _)
    refine AW.icmp_ge (off := 93) (tgt := 120) (by decide +kernel) (by decide) (fun _ => ?_) (fun _ => ?_)
    · refine AW.sub (L' := [(0, zR (some 0))]) [0] rfl ?_
      exact hK  μ
    · refine AW.iload (i := 6) (a := v6) (by decide +kernel) rfl (?_ : AW _ _ _ _ 32 _ _ _ _ _ _)
      refine AW.iconst (n := 4) (by decide +kernel) (?_ : AW _ _ _ _ 33 _ _ _ _ _ _)
      refine AW.icmp_ge (off := 7) (tgt := 40) (by decide +kernel) (by decide) (fun _ => ?_) (fun _ => ?_)
      · refine AW.iload (i := 6) (a := v6) (by decide +kernel) rfl (?_ : AW _ _ _ _ 42 _ _ _ _ _ _)
        refine AW.bipush (n := 8) (by decide +kernel) (by decide +kernel) (?_ : AW _ _ _ _ 44 _ _ _ _ _ _)
        refine AW.icmp_ge (off := 7) (tgt := 51) (by decide +kernel) (by decide) (fun _ => ?_) (fun _ => ?_)
        · refine AW.iload (i := 6) (a := v6) (by decide +kernel) rfl (?_ : AW _ _ _ _ 53 _ _ _ _ _ _)
          refine AW.bipush (n := 12) (by decide +kernel) (by decide +kernel) (?_ : AW _ _ _ _ 55 _ _ _ _ _ _)
          refine AW.icmp_ge (off := 7) (tgt := 62) (by decide +kernel) (by decide) (fun _ => ?_) (fun _ => ?_)
          · refine AW.iload (i := 6) (a := v6) (by decide +kernel) rfl (?_ : AW _ _ _ _ 64 _ _ _ _ _ _)
            refine AW.bipush (n := 16) (by decide +kernel) (by decide +kernel) (?_ : AW _ _ _ _ 66 _ _ _ _ _ _)
            refine AW.icmp_ge (off := 8) (tgt := 74) (by decide +kernel) (by decide) (fun _ => ?_) (fun _ => ?_)
            · refine AW.iload (i := 5) (a := c5) (by decide +kernel) rfl (?_ : AW _ _ _ _ 76 _ _ _ _ _ _)
              exact j_Model_feed_76 c1 c2 c3 c4 c5 ih hK v6 c5 μ
            · refine AW.iload (i := 4) (a := c4) (by decide +kernel) rfl (?_ : AW _ _ _ _ 71 _ _ _ _ _ _)
              refine AW.goto (off := 5) (tgt := 76) (by decide +kernel) (by decide) ?_
              exact j_Model_feed_76 c1 c2 c3 c4 c5 ih hK v6 c4 μ
          · refine AW.iload_n (i := 3) (a := c3) (by decide +kernel) rfl (?_ : AW _ _ _ _ 59 _ _ _ _ _ _)
            refine AW.goto (off := 17) (tgt := 76) (by decide +kernel) (by decide) ?_
            exact j_Model_feed_76 c1 c2 c3 c4 c5 ih hK v6 c3 μ
        · refine AW.iload_n (i := 2) (a := c2) (by decide +kernel) rfl (?_ : AW _ _ _ _ 48 _ _ _ _ _ _)
          refine AW.goto (off := 28) (tgt := 76) (by decide +kernel) (by decide) ?_
          exact j_Model_feed_76 c1 c2 c3 c4 c5 ih hK v6 c2 μ
      · refine AW.iload_n (i := 1) (a := c1) (by decide +kernel) rfl (?_ : AW _ _ _ _ 37 _ _ _ _ _ _)
        refine AW.goto (off := 39) (tgt := 76) (by decide +kernel) (by decide) ?_
        exact j_Model_feed_76 c1 c2 c3 c4 c5 ih hK v6 c1 μ
def F_Model_feed (a1 : Int) (a2 : Int) (a3 : Int) (a4 : Int) (a5 : Int) (μ : ZMem) : Option ZRes := zLet (zUp μ 0 0 0) (fun μ1 => if w32 ((μ1 0 21) + 20) ≤ w32 400 then (L_Model_feed_23 a1 a2 a3 a4 a5 (fun μ5 => some (.inr (some (zI (μ5 0 21))), μ5)) zN 0 μ1) else (some (.inr (some (zI (-1))), μ1)))
set_option maxRecDepth 100000 in
theorem w_Model_feed (a1 : Int) (a2 : Int) (a3 : Int) (a4 : Int) (a5 : Int) (μ : ZMem) : AW cf_Model_feed S_Model.length S_Model S_Model 0 [(0, zR (some 0)), (1, zI a1), (2, zI a2), (3, zI a3), (4, zI a4), (5, zI a5)] [] μ 0 0 (F_Model_feed a1 a2 a3 a4 a5 μ) := by
  unfold F_Model_feed
  refine AW.aload_n (i := 0) (a := 0) (by decide +kernel) rfl (?_ : AW _ _ _ _ 1 _ _ _ _ _ _)
  refine AW.iconst (n := 0) (by decide +kernel) (?_ : AW _ _ _ _ 2 _ _ _ _ _ _)
  refine AW.putiL (idx := 93) (ci := 9) (k := 0) (r := 0) (by decide +kernel) rfl rfl rfl (fun μ1 => (?_ : AW _ _ _ _ 5 _ _ _ _ _ _))
  refine AW.aload_n (i := 0) (a := 0) (by decide +kernel) rfl (?_ : AW _ _ _ _ 6 _ _ _ _ _ _)
  refine AW.getI (idx := 236) (ci := 9) (k := 21) (r := 0) (by decide +kernel) rfl rfl rfl (?_ : AW _ _ _ _ 9 _ _ _ _ _ _)
  refine AW.bipush (n := 20) (by decide +kernel) (by decide +kernel) (?_ : AW _ _ _ _ 11 _ _ _ _ _ _)
  refine AW.iadd (by decide +kernel) (?_ : AW _ _ _ _ 12 _ _ _ _ _ _)
  refine AW.sipush (n := 400) (by decide +kernel) (by decide +kernel) (?_ : AW _ _ _ _ 15 _ _ _ _ _ _)
  refine AW.icmp_le (off := 5) (tgt := 20) (by decide +kernel) (by decide) (fun _ => ?_) (fun _ => ?_)
  · refine AW.iconst (n := 0) (by decide +kernel) (?_ : AW _ _ _ _ 21 _ _ _ _ _ _)
    refine AW.istore' (i := 6) (L' := [(6, zI 0), (0, zR (some 0)), (1, zI a1), (2, zI a2), (3, zI a3), (4, zI a4), (5, zI a5)]) (by decide +kernel) (by decide) rfl (?_ : AW _ _ _ _ 23 _ _ _ _ _ _)
    refine AW.sub (L' := [(0, zR (some 0)), (1, zI a1), (2, zI a2), (3, zI a3), (4, zI a4), (5, zI a5), (6, zI 0)]) [1, 2, 3, 4, 5, 6, 0] rfl ?_
    refine l_Model_feed_23 (fun μ5 => ?_) zN _ _
    refine AW.aload_n (i := 0) (a := 0) (by decide +kernel) rfl (?_ : AW _ _ _ _ 121 _ _ _ _ _ _)
    refine AW.getI (idx := 236) (ci := 9) (k := 21) (r := 0) (by decide +kernel) rfl rfl rfl (?_ : AW _ _ _ _ 124 _ _ _ _ _ _)
    exact AW.reti (by decide +kernel) rfl (by decide) (by decide)
  · refine AW.iconst (n := -1) (by decide +kernel) (?_ : AW _ _ _ _ 19 _ _ _ _ _ _)
    exact AW.reti (by decide +kernel) rfl (by decide) (by decide)
theorem c_Model_feed (l : Launch) (hl : l.stackTraces = false) (a1 : Int) (a2 : Int) (a3 : Int) (a4 : Int) (a5 : Int) (μ : ZMem) (r : ZRes) (h : F_Model_feed a1 a2 a3 a4 a5 μ = some r) : ZC l cf_Model_feed S_Model S_Model [zR (some 0), zI a1, zI a2, zI a3, zI a4, zI a5] μ r := ZC.of hl (by decide +kernel) rfl rfl zft_X9_ok (Nat.le_of_ble_eq_true rfl) h (w_Model_feed a1 a2 a3 a4 a5 μ)
/-! WeirLedgerModel.end(I)Z -/
def cf_Model_end : ZCf := (yX9_end, cX9_end, 2, some .boolean, [], 3, 0, 0, zft_X9, none)
theorem cal_Model_end : zCallee cf_Model_end 1 := ⟨rfl, zc_yX9_end, by decide, by decide, by decide +kernel⟩
def F_Model_end (a1 : Int) (μ : ZMem) : Option ZRes := zLet (zUp μ 0 0 0) (fun μ1 => zC (F_Model_isIn (w32 a1) 0 (w32 (μ1 0 21)) μ1) (zkI (fun x3 _ => if w32 x3 = 0 then (some (.inr (some (zI 0)), μ1)) else (zLet (zUp μ1 0 21 a1) (fun μ4 => some (.inr (some (zI 1)), μ4))))) zX0)
set_option maxRecDepth 100000 in
theorem w_Model_end (a1 : Int) (μ : ZMem) : AW cf_Model_end S_Model.length S_Model S_Model 0 [(0, zR (some 0)), (1, zI a1)] [] μ 0 0 (F_Model_end a1 μ) := by
  unfold F_Model_end
  refine AW.aload_n (i := 0) (a := 0) (by decide +kernel) rfl (?_ : AW _ _ _ _ 1 _ _ _ _ _ _)
  refine AW.iconst (n := 0) (by decide +kernel) (?_ : AW _ _ _ _ 2 _ _ _ _ _ _)
  refine AW.putiL (idx := 93) (ci := 9) (k := 0) (r := 0) (by decide +kernel) rfl rfl rfl (fun μ1 => (?_ : AW _ _ _ _ 5 _ _ _ _ _ _))
  refine AW.iload_n (i := 1) (a := a1) (by decide +kernel) rfl (?_ : AW _ _ _ _ 6 _ _ _ _ _ _)
  refine AW.i2l (by decide +kernel) (?_ : AW _ _ _ _ 7 _ _ _ _ _ _)
  refine AW.lconst0 (by decide +kernel) (?_ : AW _ _ _ _ 8 _ _ _ _ _ _)
  refine AW.aload_n (i := 0) (a := 0) (by decide +kernel) rfl (?_ : AW _ _ _ _ 9 _ _ _ _ _ _)
  refine AW.getI (idx := 236) (ci := 9) (k := 21) (r := 0) (by decide +kernel) rfl rfl rfl (?_ : AW _ _ _ _ 12 _ _ _ _ _ _)
  refine AW.i2l (by decide +kernel) (?_ : AW _ _ _ _ 13 _ _ _ _ _ _)
  refine AW.callP (g := cf_Model_isIn) (av := [zJ (w32 a1), zJ 0, zJ (w32 (μ1 0 21))]) (idx := 99) (n := 3) (st := []) (by decide +kernel) (fun l hl r hr => c_Model_isIn l hl (w32 a1) 0 (w32 (μ1 0 21)) _ r hr) rfl cal_Model_isIn rfl (zw3 zm_X9_99 zt_yX9_isIn zn_X9) ⟨by decide, by decide, by decide, by decide⟩ (Nat.le_of_ble_eq_true rfl) (fun v _ => AW.kI (fun x3 => (?_ : AW _ _ _ _ 16 _ _ _ _ _ _)) v)
  refine AW.if_ne (off := 5) (tgt := 21) (by decide +kernel) (by decide) (fun _ => ?_) (fun _ => ?_)
  · refine AW.iconst (n := 0) (by decide +kernel) (?_ : AW _ _ _ _ 20 _ _ _ _ _ _)
    exact AW.retb1 (by decide +kernel) rfl (by decide) (by decide) (by decide)
  · refine AW.aload_n (i := 0) (a := 0) (by decide +kernel) rfl (?_ : AW _ _ _ _ 22 _ _ _ _ _ _)
    refine AW.iload_n (i := 1) (a := a1) (by decide +kernel) rfl (?_ : AW _ _ _ _ 23 _ _ _ _ _ _)
    refine AW.putiL (idx := 236) (ci := 9) (k := 21) (r := 0) (by decide +kernel) rfl rfl rfl (fun μ4 => (?_ : AW _ _ _ _ 26 _ _ _ _ _ _))
    refine AW.iconst (n := 1) (by decide +kernel) (?_ : AW _ _ _ _ 27 _ _ _ _ _ _)
    exact AW.retb1 (by decide +kernel) rfl (by decide) (by decide) (by decide)
theorem c_Model_end (l : Launch) (hl : l.stackTraces = false) (a1 : Int) (μ : ZMem) (r : ZRes) (h : F_Model_end a1 μ = some r) : ZC l cf_Model_end S_Model S_Model [zR (some 0), zI a1] μ r := ZC.of hl (by decide +kernel) rfl rfl zft_X9_ok (Nat.le_of_ble_eq_true rfl) h (w_Model_end a1 μ)
/-! WeirLedgerModel.begins()V -/
def cf_Model_begins : ZCf := (yX9_begins, cX9_begins, 1, none, [], 2, 0, 0, zft_X9, none)
theorem cal_Model_begins : zCallee cf_Model_begins 0 := ⟨rfl, zc_yX9_begins, by decide, by decide, by decide +kernel⟩
def F_Model_begins (μ : ZMem) : Option ZRes := zLet (zUp μ 0 24 (-1)) (fun μ1 => zLet (zUp μ1 0 22 (μ1 0 21)) (fun μ2 => zLet (zUp μ2 0 21 0) (fun μ3 => zLet (zUp μ3 0 23 0) (fun μ4 => some (.inr none, μ4)))))
set_option maxRecDepth 100000 in
theorem w_Model_begins (μ : ZMem) : AW cf_Model_begins S_Model.length S_Model S_Model 0 [(0, zR (some 0))] [] μ 0 0 (F_Model_begins μ) := by
  unfold F_Model_begins
  refine AW.aload_n (i := 0) (a := 0) (by decide +kernel) rfl (?_ : AW _ _ _ _ 1 _ _ _ _ _ _)
  refine AW.iconst (n := -1) (by decide +kernel) (?_ : AW _ _ _ _ 2 _ _ _ _ _ _)
  refine AW.putiL (idx := 60) (ci := 9) (k := 24) (r := 0) (by decide +kernel) rfl rfl rfl (fun μ1 => (?_ : AW _ _ _ _ 5 _ _ _ _ _ _))
  refine AW.aload_n (i := 0) (a := 0) (by decide +kernel) rfl (?_ : AW _ _ _ _ 6 _ _ _ _ _ _)
  refine AW.aload_n (i := 0) (a := 0) (by decide +kernel) rfl (?_ : AW _ _ _ _ 7 _ _ _ _ _ _)
  refine AW.getI (idx := 236) (ci := 9) (k := 21) (r := 0) (by decide +kernel) rfl rfl rfl (?_ : AW _ _ _ _ 10 _ _ _ _ _ _)
  refine AW.putiL (idx := 239) (ci := 9) (k := 22) (r := 0) (by decide +kernel) rfl rfl rfl (fun μ2 => (?_ : AW _ _ _ _ 13 _ _ _ _ _ _))
  refine AW.aload_n (i := 0) (a := 0) (by decide +kernel) rfl (?_ : AW _ _ _ _ 14 _ _ _ _ _ _)
  refine AW.iconst (n := 0) (by decide +kernel) (?_ : AW _ _ _ _ 15 _ _ _ _ _ _)
  refine AW.putiL (idx := 236) (ci := 9) (k := 21) (r := 0) (by decide +kernel) rfl rfl rfl (fun μ3 => (?_ : AW _ _ _ _ 18 _ _ _ _ _ _))
  refine AW.aload_n (i := 0) (a := 0) (by decide +kernel) rfl (?_ : AW _ _ _ _ 19 _ _ _ _ _ _)
  refine AW.iconst (n := 0) (by decide +kernel) (?_ : AW _ _ _ _ 20 _ _ _ _ _ _)
  refine AW.putiL (idx := 242) (ci := 9) (k := 23) (r := 0) (by decide +kernel) rfl rfl rfl (fun μ4 => (?_ : AW _ _ _ _ 23 _ _ _ _ _ _))
  exact AW.retv (by decide +kernel) rfl (by decide) (by decide)
theorem c_Model_begins (l : Launch) (hl : l.stackTraces = false) (μ : ZMem) (r : ZRes) (h : F_Model_begins μ = some r) : ZC l cf_Model_begins S_Model S_Model [zR (some 0)] μ r := ZC.of hl (by decide +kernel) rfl rfl zft_X9_ok (Nat.le_of_ble_eq_true rfl) h (w_Model_begins μ)
/-! WeirLedgerModel.here()I -/
def cf_Model_here : ZCf := (yX9_here, cX9_here, 1, some .int, [], 2, 0, 0, zft_X9, none)
theorem cal_Model_here : zCallee cf_Model_here 0 := ⟨rfl, zc_yX9_here, by decide, by decide, by decide +kernel⟩
def L_Model_here_0 (K : ZMem → Option ZRes) : Nat → ZMem → Option ZRes
  | 0, _ => none
  | n + 1, μ => if w32 (μ 0 22) ≤ w32 (μ 0 23) then (K  μ) else (zRd μ 15 400 (μ 0 23) (fun x3 => if w32 x3 = w32 32 then (zLet (zUp μ 0 23 ((μ 0 23) + 1)) (fun μ4 => L_Model_here_0 K n  μ4)) else (K  μ)))
set_option maxRecDepth 100000 in
theorem l_Model_here_0 {K : ZMem → Option ZRes} (hK : ∀ (μ : ZMem), AW cf_Model_here S_Model.length S_Model S_Model 38 [(0, zR (some 0))] [] μ 0 0 (K μ)) : ∀ (n : Nat) (μ : ZMem), AW cf_Model_here S_Model.length S_Model S_Model 0 [(0, zR (some 0))] [] μ 0 0 (L_Model_here_0 K n μ) := by
  intro n
  induction n with
  | zero => intro μ; exact AW.noth
  | succ n ih =>
    intro μ
    rw [L_Model_here_0]
    refine AW.aload_n (i := 0) (a := 0) (by decide +kernel) rfl (?_ : AW _ _ _ _ 1 _ _ _ _ _ _)
    refine AW.getI (idx := 242) (ci := 9) (k := 23) (r := 0) (by decide +kernel) rfl rfl rfl (?_ : AW _ _ _ _ 4 _ _ _ _ _ _)
    refine AW.aload_n (i := 0) (a := 0) (by decide +kernel) rfl (?_ : AW _ _ _ _ 5 _ _ _ _ _ _)
    refine AW.getI (idx := 239) (ci := 9) (k := 22) (r := 0) (by decide +kernel) rfl rfl rfl (?_ : AW _ _ _ _ 8 _ _ _ _ _ _)
    refine AW.icmp_ge (off := 30) (tgt := 38) (by decide +kernel) (by decide) (fun _ => ?_) (fun _ => ?_)
    · exact hK  μ
    · refine AW.aload_n (i := 0) (a := 0) (by decide +kernel) rfl (?_ : AW _ _ _ _ 12 _ _ _ _ _ _)
      refine AW.getR (idx := 57) (ci := 9) (k := 20) (r := 0) (by decide +kernel) rfl rfl rfl (?_ : AW _ _ _ _ 15 _ _ _ _ _ _)
      refine AW.aload_n (i := 0) (a := 0) (by decide +kernel) rfl (?_ : AW _ _ _ _ 16 _ _ _ _ _ _)
      refine AW.getI (idx := 242) (ci := 9) (k := 23) (r := 0) (by decide +kernel) rfl rfl rfl (?_ : AW _ _ _ _ 19 _ _ _ _ _ _)
      refine AW.iald (r := 15) (by decide +kernel) rfl (fun x3 => (?_ : AW _ _ _ _ 20 _ _ _ _ _ _))
      refine AW.bipush (n := 32) (by decide +kernel) (by decide +kernel) (?_ : AW _ _ _ _ 22 _ _ _ _ _ _)
      refine AW.icmp_ne (off := 16) (tgt := 38) (by decide +kernel) (by decide) (fun _ => ?_) (fun _ => ?_)
      · refine AW.aload_n (i := 0) (a := 0) (by decide +kernel) rfl (?_ : AW _ _ _ _ 26 _ _ _ _ _ _)
        refine AW.dup (by decide +kernel) rfl (?_ : AW _ _ _ _ 27 _ _ _ _ _ _)
        refine AW.getI (idx := 242) (ci := 9) (k := 23) (r := 0) (by decide +kernel) rfl rfl rfl (?_ : AW _ _ _ _ 30 _ _ _ _ _ _)
        refine AW.iconst (n := 1) (by decide +kernel) (?_ : AW _ _ _ _ 31 _ _ _ _ _ _)
        refine AW.iadd (by decide +kernel) (?_ : AW _ _ _ _ 32 _ _ _ _ _ _)
        refine AW.putiL (idx := 242) (ci := 9) (k := 23) (r := 0) (by decide +kernel) rfl rfl rfl (fun μ4 => (?_ : AW _ _ _ _ 35 _ _ _ _ _ _))
        refine AW.goto (off := -35) (tgt := 0) (by decide +kernel) (by decide) ?_
        exact ih  μ4
      · exact hK  μ
def F_Model_here (μ : ZMem) : Option ZRes := if w32 (μ 0 22) ≤ w32 (μ 0 23) then (some (.inr (some (zI (μ 0 23))), μ)) else (zRd μ 15 400 (μ 0 23) (fun x1 => if w32 x1 = w32 32 then (zLet (zUp μ 0 23 ((μ 0 23) + 1)) (fun μ2 => L_Model_here_0 (fun μ5 => some (.inr (some (zI (μ5 0 23))), μ5)) zN  μ2)) else (some (.inr (some (zI (μ 0 23))), μ))))
set_option maxRecDepth 100000 in
theorem w_Model_here (μ : ZMem) : AW cf_Model_here S_Model.length S_Model S_Model 0 [(0, zR (some 0))] [] μ 0 0 (F_Model_here μ) := by
  unfold F_Model_here
  refine AW.aload_n (i := 0) (a := 0) (by decide +kernel) rfl (?_ : AW _ _ _ _ 1 _ _ _ _ _ _)
  refine AW.getI (idx := 242) (ci := 9) (k := 23) (r := 0) (by decide +kernel) rfl rfl rfl (?_ : AW _ _ _ _ 4 _ _ _ _ _ _)
  refine AW.aload_n (i := 0) (a := 0) (by decide +kernel) rfl (?_ : AW _ _ _ _ 5 _ _ _ _ _ _)
  refine AW.getI (idx := 239) (ci := 9) (k := 22) (r := 0) (by decide +kernel) rfl rfl rfl (?_ : AW _ _ _ _ 8 _ _ _ _ _ _)
  refine AW.icmp_ge (off := 30) (tgt := 38) (by decide +kernel) (by decide) (fun _ => ?_) (fun _ => ?_)
  · refine AW.aload_n (i := 0) (a := 0) (by decide +kernel) rfl (?_ : AW _ _ _ _ 39 _ _ _ _ _ _)
    refine AW.getI (idx := 242) (ci := 9) (k := 23) (r := 0) (by decide +kernel) rfl rfl rfl (?_ : AW _ _ _ _ 42 _ _ _ _ _ _)
    exact AW.reti (by decide +kernel) rfl (by decide) (by decide)
  · refine AW.aload_n (i := 0) (a := 0) (by decide +kernel) rfl (?_ : AW _ _ _ _ 12 _ _ _ _ _ _)
    refine AW.getR (idx := 57) (ci := 9) (k := 20) (r := 0) (by decide +kernel) rfl rfl rfl (?_ : AW _ _ _ _ 15 _ _ _ _ _ _)
    refine AW.aload_n (i := 0) (a := 0) (by decide +kernel) rfl (?_ : AW _ _ _ _ 16 _ _ _ _ _ _)
    refine AW.getI (idx := 242) (ci := 9) (k := 23) (r := 0) (by decide +kernel) rfl rfl rfl (?_ : AW _ _ _ _ 19 _ _ _ _ _ _)
    refine AW.iald (r := 15) (by decide +kernel) rfl (fun x1 => (?_ : AW _ _ _ _ 20 _ _ _ _ _ _))
    refine AW.bipush (n := 32) (by decide +kernel) (by decide +kernel) (?_ : AW _ _ _ _ 22 _ _ _ _ _ _)
    refine AW.icmp_ne (off := 16) (tgt := 38) (by decide +kernel) (by decide) (fun _ => ?_) (fun _ => ?_)
    · refine AW.aload_n (i := 0) (a := 0) (by decide +kernel) rfl (?_ : AW _ _ _ _ 26 _ _ _ _ _ _)
      refine AW.dup (by decide +kernel) rfl (?_ : AW _ _ _ _ 27 _ _ _ _ _ _)
      refine AW.getI (idx := 242) (ci := 9) (k := 23) (r := 0) (by decide +kernel) rfl rfl rfl (?_ : AW _ _ _ _ 30 _ _ _ _ _ _)
      refine AW.iconst (n := 1) (by decide +kernel) (?_ : AW _ _ _ _ 31 _ _ _ _ _ _)
      refine AW.iadd (by decide +kernel) (?_ : AW _ _ _ _ 32 _ _ _ _ _ _)
      refine AW.putiL (idx := 242) (ci := 9) (k := 23) (r := 0) (by decide +kernel) rfl rfl rfl (fun μ2 => (?_ : AW _ _ _ _ 35 _ _ _ _ _ _))
      refine AW.goto (off := -35) (tgt := 0) (by decide +kernel) (by decide) ?_
      refine l_Model_here_0 (fun μ5 => ?_) zN _
      refine AW.aload_n (i := 0) (a := 0) (by decide +kernel) rfl (?_ : AW _ _ _ _ 39 _ _ _ _ _ _)
      refine AW.getI (idx := 242) (ci := 9) (k := 23) (r := 0) (by decide +kernel) rfl rfl rfl (?_ : AW _ _ _ _ 42 _ _ _ _ _ _)
      exact AW.reti (by decide +kernel) rfl (by decide) (by decide)
    · refine AW.aload_n (i := 0) (a := 0) (by decide +kernel) rfl (?_ : AW _ _ _ _ 39 _ _ _ _ _ _)
      refine AW.getI (idx := 242) (ci := 9) (k := 23) (r := 0) (by decide +kernel) rfl rfl rfl (?_ : AW _ _ _ _ 42 _ _ _ _ _ _)
      exact AW.reti (by decide +kernel) rfl (by decide) (by decide)
theorem c_Model_here (l : Launch) (hl : l.stackTraces = false) (μ : ZMem) (r : ZRes) (h : F_Model_here μ = some r) : ZC l cf_Model_here S_Model S_Model [zR (some 0)] μ r := ZC.of hl (by decide +kernel) rfl rfl zft_X9_ok (Nat.le_of_ble_eq_true rfl) h (w_Model_here μ)
/-! WeirLedgerModel.wrong(I)V -/
def cf_Model_wrong : ZCf := (yX9_wrong, cX9_wrong, 2, none, [], 2, 0, 0, zft_X9, none)
theorem cal_Model_wrong : zCallee cf_Model_wrong 1 := ⟨rfl, zc_yX9_wrong, by decide, by decide, by decide +kernel⟩
def F_Model_wrong (a1 : Int) (μ : ZMem) : Option ZRes := if w32 (μ 0 24) = w32 (-1) then (zLet (zUp μ 0 24 a1) (fun μ1 => some (.inr none, μ1))) else (some (.inr none, μ))
set_option maxRecDepth 100000 in
theorem w_Model_wrong (a1 : Int) (μ : ZMem) : AW cf_Model_wrong S_Model.length S_Model S_Model 0 [(0, zR (some 0)), (1, zI a1)] [] μ 0 0 (F_Model_wrong a1 μ) := by
  unfold F_Model_wrong
  refine AW.aload_n (i := 0) (a := 0) (by decide +kernel) rfl (?_ : AW _ _ _ _ 1 _ _ _ _ _ _)
  refine AW.getI (idx := 60) (ci := 9) (k := 24) (r := 0) (by decide +kernel) rfl rfl rfl (?_ : AW _ _ _ _ 4 _ _ _ _ _ _)
  refine AW.iconst (n := -1) (by decide +kernel) (?_ : AW _ _ _ _ 5 _ _ _ _ _ _)
  refine AW.icmp_ne (off := 8) (tgt := 13) (by decide +kernel) (by decide) (fun _ => ?_) (fun _ => ?_)
  · refine AW.aload_n (i := 0) (a := 0) (by decide +kernel) rfl (?_ : AW _ _ _ _ 9 _ _ _ _ _ _)
    refine AW.iload_n (i := 1) (a := a1) (by decide +kernel) rfl (?_ : AW _ _ _ _ 10 _ _ _ _ _ _)
    refine AW.putiL (idx := 60) (ci := 9) (k := 24) (r := 0) (by decide +kernel) rfl rfl rfl (fun μ1 => (?_ : AW _ _ _ _ 13 _ _ _ _ _ _))
    exact AW.retv (by decide +kernel) rfl (by decide) (by decide)
  · exact AW.retv (by decide +kernel) rfl (by decide) (by decide)
theorem c_Model_wrong (l : Launch) (hl : l.stackTraces = false) (a1 : Int) (μ : ZMem) (r : ZRes) (h : F_Model_wrong a1 μ = some r) : ZC l cf_Model_wrong S_Model S_Model [zR (some 0), zI a1] μ r := ZC.of hl (by decide +kernel) rfl rfl zft_X9_ok (Nat.le_of_ble_eq_true rfl) h (w_Model_wrong a1 μ)
/-! WeirLedgerModel.has(Ljava/lang/String;)Z -/
def cf_Model_has : ZCf := (yX9_has, cX9_has, 4, some .boolean, [], 10, 0, 0, zft_X9, none)
theorem cal_Model_has : zCallee cf_Model_has 1 := ⟨rfl, zc_yX9_has, by decide, by decide, by decide +kernel⟩
def L_Model_has_5 (j1 : Nat) (μ : ZMem) (K : Int → Option ZRes) : Nat → Int → Option ZRes
  | 0, _ => none
  | n + 1, v2 => if w32 (μ 0 22) ≤ w32 v2 then (K v2) else (zRd μ 15 400 v2 (fun x3 => zC (F_Model_isIn (w32 x3) 97 122 μ) (zkI (fun x5 _ => if w32 x5 = 0 then (K v2) else (zLet (v2 + 1) (fun x6 => L_Model_has_5 j1 μ K n x6)))) zX0))
set_option maxRecDepth 100000 in
theorem l_Model_has_5 {j1 : Nat} {μ : ZMem} {K : Int → Option ZRes} (hK : ∀ (k2 : Int), AW cf_Model_has S_Model.length S_Model S_Model 38 [(0, zR (some 0)), (1, zR (some (zSB + j1))), (2, zI k2)] [] μ 0 0 (K k2)) : ∀ (n : Nat) (v2 : Int), AW cf_Model_has S_Model.length S_Model S_Model 5 [(0, zR (some 0)), (1, zR (some (zSB + j1))), (2, zI v2)] [] μ 0 0 (L_Model_has_5 j1 μ K n v2) := by
  intro n
  induction n with
  | zero => intro v2; exact AW.noth
  | succ n ih =>
    intro v2
    rw [L_Model_has_5]
    refine AW.iload_n (i := 2) (a := v2) (by decide +kernel) rfl (?_ : AW _ _ _ _ 6 _ _ _ _ _ _)
    refine AW.aload_n (i := 0) (a := 0) (by decide +kernel) rfl (?_ : AW _ _ _ _ 7 _ _ _ _ _ _)
    refine AW.getI (idx := 239) (ci := 9) (k := 22) (r := 0) (by decide +kernel) rfl rfl rfl (?_ : AW _ _ _ _ 10 _ _ _ _ _ _)
    refine AW.icmp_ge (off := 28) (tgt := 38) (by decide +kernel) (by decide) (fun _ => ?_) (fun _ => ?_)
    · exact hK v2
    · refine AW.aload_n (i := 0) (a := 0) (by decide +kernel) rfl (?_ : AW _ _ _ _ 14 _ _ _ _ _ _)
      refine AW.getR (idx := 57) (ci := 9) (k := 20) (r := 0) (by decide +kernel) rfl rfl rfl (?_ : AW _ _ _ _ 17 _ _ _ _ _ _)
      refine AW.iload_n (i := 2) (a := v2) (by decide +kernel) rfl (?_ : AW _ _ _ _ 18 _ _ _ _ _ _)
      refine AW.iald (r := 15) (by decide +kernel) rfl (fun x3 => (?_ : AW _ _ _ _ 19 _ _ _ _ _ _))
      refine AW.i2l (by decide +kernel) (?_ : AW _ _ _ _ 20 _ _ _ _ _ _)
      refine AW.ldc2 (idx := 249) (v := 97) (by decide +kernel) zk_X9_249 (?_ : AW _ _ _ _ 23 _ _ _ _ _ _)
      refine AW.ldc2 (idx := 251) (v := 122) (by decide +kernel) zk_X9_251 (?_ : AW _ _ _ _ 26 _ _ _ _ _ _)
      refine AW.callP (g := cf_Model_isIn) (av := [zJ (w32 x3), zJ 97, zJ 122]) (idx := 99) (n := 3) (st := []) (by decide +kernel) (fun l hl r hr => c_Model_isIn l hl (w32 x3) 97 122 _ r hr) rfl cal_Model_isIn rfl (zw3 zm_X9_99 zt_yX9_isIn zn_X9) ⟨by decide, by decide, by decide, by decide⟩ (Nat.le_of_ble_eq_true rfl) (fun v _ => AW.kI (fun x5 => (?_ : AW _ _ _ _ 29 _ _ _ _ _ _)) v)
      refine AW.if_eq (off := 9) (tgt := 38) (by decide +kernel) (by decide) (fun _ => ?_) (fun _ => ?_)
      · exact hK v2
      · refine AW.iincL (i := 2) (n := 1) (a := v2) (L' := fun x6 => [(2, zI x6), (0, zR (some 0)), (1, zR (some (zSB + j1)))]) (by decide +kernel) rfl (by decide) (fun _ => rfl) (fun x6 => (?_ : AW _ _ _ _ 35 _ _ _ _ _ _))
        refine AW.goto (off := -30) (tgt := 5) (by decide +kernel) (by decide) ?_
        refine AW.sub (L' := [(0, zR (some 0)), (1, zR (some (zSB + j1))), (2, zI x6)]) [1, 2, 0] rfl ?_
        exact ih x6
def L_Model_has_63 (j1 : Nat) (c2 : Int) (μ : ZMem) (K : Option ZRes) : Nat → Int → Option ZRes
  | 0, _ => none
  | n + 1, v3 => zSln j1 (fun x9 => if w32 x9 ≤ w32 v3 then (K) else (zRd μ 15 400 ((μ 0 23) + v3) (fun x10 => zSch j1 v3 (fun x11 => if w32 x10 = w32 x11 then (zLet (v3 + 1) (fun x12 => L_Model_has_63 j1 c2 μ K n x12)) else (some (.inr (some (zI 0)), μ))))))
set_option maxRecDepth 100000 in
theorem l_Model_has_63 {j1 : Nat} {c2 : Int} {μ : ZMem} {K : Option ZRes} (hK : AW cf_Model_has S_Model.length S_Model S_Model 98 [(0, zR (some 0)), (2, zI c2)] [] μ 0 0 (K)) : ∀ (n : Nat) (v3 : Int), AW cf_Model_has S_Model.length S_Model S_Model 63 [(0, zR (some 0)), (1, zR (some (zSB + j1))), (2, zI c2), (3, zI v3)] [] μ 0 0 (L_Model_has_63 j1 c2 μ K n v3) := by
  intro n
  induction n with
  | zero => intro v3; exact AW.noth
  | succ n ih =>
    intro v3
    rw [L_Model_has_63]
    refine AW.iload_n (i := 3) (a := v3) (by decide +kernel) rfl (?_ : AW _ _ _ _ 64 _ _ _ _ _ _)
    refine AW.aload_n (i := 1) (a := (zSB + j1)) (by decide +kernel) rfl (?_ : AW _ _ _ _ 65 _ _ _ _ _ _)
    refine AW.slen (idx := 253) (j := j1) (by decide +kernel) zm_X9_253 rfl (fun x9 => (?_ : AW _ _ _ _ 68 _ _ _ _ _ _))
    refine AW.icmp_ge (off := 30) (tgt := 98) (by decide +kernel) (by decide) (fun _ => ?_) (fun _ => ?_)
    · refine AW.sub (L' := [(0, zR (some 0)), (2, zI c2)]) [0, 2] rfl ?_
      exact hK 
    · refine AW.aload_n (i := 0) (a := 0) (by decide +kernel) rfl (?_ : AW _ _ _ _ 72 _ _ _ _ _ _)
      refine AW.getR (idx := 57) (ci := 9) (k := 20) (r := 0) (by decide +kernel) rfl rfl rfl (?_ : AW _ _ _ _ 75 _ _ _ _ _ _)
      refine AW.aload_n (i := 0) (a := 0) (by decide +kernel) rfl (?_ : AW _ _ _ _ 76 _ _ _ _ _ _)
      refine AW.getI (idx := 242) (ci := 9) (k := 23) (r := 0) (by decide +kernel) rfl rfl rfl (?_ : AW _ _ _ _ 79 _ _ _ _ _ _)
      refine AW.iload_n (i := 3) (a := v3) (by decide +kernel) rfl (?_ : AW _ _ _ _ 80 _ _ _ _ _ _)
      refine AW.iadd (by decide +kernel) (?_ : AW _ _ _ _ 81 _ _ _ _ _ _)
      refine AW.iald (r := 15) (by decide +kernel) rfl (fun x10 => (?_ : AW _ _ _ _ 82 _ _ _ _ _ _))
      refine AW.aload_n (i := 1) (a := (zSB + j1)) (by decide +kernel) rfl (?_ : AW _ _ _ _ 83 _ _ _ _ _ _)
      refine AW.iload_n (i := 3) (a := v3) (by decide +kernel) rfl (?_ : AW _ _ _ _ 84 _ _ _ _ _ _)
      refine AW.schr (idx := 258) (j := j1) (by decide +kernel) zm_X9_258 rfl (fun x11 => (?_ : AW _ _ _ _ 87 _ _ _ _ _ _))
      refine AW.icmp_eq (off := 5) (tgt := 92) (by decide +kernel) (by decide) (fun _ => ?_) (fun _ => ?_)
      · refine AW.iincL (i := 3) (n := 1) (a := v3) (L' := fun x12 => [(3, zI x12), (0, zR (some 0)), (1, zR (some (zSB + j1))), (2, zI c2)]) (by decide +kernel) rfl (by decide) (fun _ => rfl) (fun x12 => (?_ : AW _ _ _ _ 95 _ _ _ _ _ _))
        refine AW.goto (off := -32) (tgt := 63) (by decide +kernel) (by decide) ?_
        refine AW.sub (L' := [(0, zR (some 0)), (1, zR (some (zSB + j1))), (2, zI c2), (3, zI x12)]) [1, 2, 3, 0] rfl ?_
        exact ih x12
      · refine AW.iconst (n := 0) (by decide +kernel) (?_ : AW _ _ _ _ 91 _ _ _ _ _ _)
        exact AW.retb1 (by decide +kernel) rfl (by decide) (by decide) (by decide)
def F_Model_has (j1 : Nat) (μ : ZMem) : Option ZRes := zC (F_Model_here  μ) (zkI (fun x2 μ1 => L_Model_has_5 j1 μ1 (fun k7 => if w32 (μ1 0 24) = w32 (-1) then (zSln j1 (fun x8 => if w32 (k7 - (μ1 0 23)) = w32 x8 then (L_Model_has_63 j1 k7 μ1 (zLet (zUp μ1 0 23 k7) (fun μ13 => some (.inr (some (zI 1)), μ13))) zN 0) else (some (.inr (some (zI 0)), μ1)))) else (some (.inr (some (zI 0)), μ1))) zN x2)) zX0
set_option maxRecDepth 100000 in
theorem w_Model_has (j1 : Nat) (μ : ZMem) : AW cf_Model_has S_Model.length S_Model S_Model 0 [(0, zR (some 0)), (1, zR (some (zSB + j1)))] [] μ 0 0 (F_Model_has j1 μ) := by
  unfold F_Model_has
  refine AW.aload_n (i := 0) (a := 0) (by decide +kernel) rfl (?_ : AW _ _ _ _ 1 _ _ _ _ _ _)
  refine AW.callVw (g := cf_Model_here) (av := []) (b0 := 0) (ci := 9) (idx := 245) (n := 0) (st := []) (by decide +kernel) (fun l hl r hr => c_Model_here l hl  _ r hr) S_Model_wf rfl cal_Model_here rfl (zw4 zm_X9_245 zi_yX9_here zs_yX9_here zn_X9) rfl rfl ⟨by decide, by decide, by decide, by decide⟩ (Nat.le_of_ble_eq_true rfl) (Or.inl rfl) (fun v μ1 => AW.kI (fun x2 => (?_ : AW _ _ _ _ 4 _ _ _ _ _ _)) v)
  refine AW.istore_n' (i := 2) (L' := [(2, zI x2), (0, zR (some 0)), (1, zR (some (zSB + j1)))]) (by decide +kernel) (by decide) rfl (?_ : AW _ _ _ _ 5 _ _ _ _ _ _)
  refine AW.sub (L' := [(0, zR (some 0)), (1, zR (some (zSB + j1))), (2, zI x2)]) [1, 2, 0] rfl ?_
  refine l_Model_has_5 (fun k7 => ?_) zN _
  refine AW.aload_n (i := 0) (a := 0) (by decide +kernel) rfl (?_ : AW _ _ _ _ 39 _ _ _ _ _ _)
  refine AW.getI (idx := 60) (ci := 9) (k := 24) (r := 0) (by decide +kernel) rfl rfl rfl (?_ : AW _ _ _ _ 42 _ _ _ _ _ _)
  refine AW.iconst (n := -1) (by decide +kernel) (?_ : AW _ _ _ _ 43 _ _ _ _ _ _)
  refine AW.icmp_ne (off := 16) (tgt := 59) (by decide +kernel) (by decide) (fun _ => ?_) (fun _ => ?_)
  · refine AW.iload_n (i := 2) (a := k7) (by decide +kernel) rfl (?_ : AW _ _ _ _ 47 _ _ _ _ _ _)
    refine AW.aload_n (i := 0) (a := 0) (by decide +kernel) rfl (?_ : AW _ _ _ _ 48 _ _ _ _ _ _)
    refine AW.getI (idx := 242) (ci := 9) (k := 23) (r := 0) (by decide +kernel) rfl rfl rfl (?_ : AW _ _ _ _ 51 _ _ _ _ _ _)
    refine AW.isub (by decide +kernel) (?_ : AW _ _ _ _ 52 _ _ _ _ _ _)
    refine AW.aload_n (i := 1) (a := (zSB + j1)) (by decide +kernel) rfl (?_ : AW _ _ _ _ 53 _ _ _ _ _ _)
    refine AW.slen (idx := 253) (j := j1) (by decide +kernel) zm_X9_253 rfl (fun x8 => (?_ : AW _ _ _ _ 56 _ _ _ _ _ _))
    refine AW.icmp_eq (off := 5) (tgt := 61) (by decide +kernel) (by decide) (fun _ => ?_) (fun _ => ?_)
    · refine AW.iconst (n := 0) (by decide +kernel) (?_ : AW _ _ _ _ 62 _ _ _ _ _ _)
      refine AW.istore_n' (i := 3) (L' := [(3, zI 0), (0, zR (some 0)), (1, zR (some (zSB + j1))), (2, zI k7)]) (by decide +kernel) (by decide) rfl (?_ : AW _ _ _ _ 63 _ _ _ _ _ _)
      refine AW.sub (L' := [(0, zR (some 0)), (1, zR (some (zSB + j1))), (2, zI k7), (3, zI 0)]) [1, 2, 3, 0] rfl ?_
      refine l_Model_has_63 ?_ zN _
      refine AW.aload_n (i := 0) (a := 0) (by decide +kernel) rfl (?_ : AW _ _ _ _ 99 _ _ _ _ _ _)
      refine AW.iload_n (i := 2) (a := k7) (by decide +kernel) rfl (?_ : AW _ _ _ _ 100 _ _ _ _ _ _)
      refine AW.putiL (idx := 242) (ci := 9) (k := 23) (r := 0) (by decide +kernel) rfl rfl rfl (fun μ13 => (?_ : AW _ _ _ _ 103 _ _ _ _ _ _))
      refine AW.iconst (n := 1) (by decide +kernel) (?_ : AW _ _ _ _ 104 _ _ _ _ _ _)
      exact AW.retb1 (by decide +kernel) rfl (by decide) (by decide) (by decide)
    · refine AW.iconst (n := 0) (by decide +kernel) (?_ : AW _ _ _ _ 60 _ _ _ _ _ _)
      exact AW.retb1 (by decide +kernel) rfl (by decide) (by decide) (by decide)
  · refine AW.iconst (n := 0) (by decide +kernel) (?_ : AW _ _ _ _ 60 _ _ _ _ _ _)
    exact AW.retb1 (by decide +kernel) rfl (by decide) (by decide) (by decide)
theorem c_Model_has (l : Launch) (hl : l.stackTraces = false) (j1 : Nat) (μ : ZMem) (r : ZRes) (h : F_Model_has j1 μ = some r) : ZC l cf_Model_has S_Model S_Model [zR (some 0), zR (some (zSB + j1))] μ r := ZC.of hl (by decide +kernel) rfl rfl zft_X9_ok (Nat.le_of_ble_eq_true rfl) h (w_Model_has j1 μ)
/-! WeirLedgerModel.number(II)I -/
def cf_Model_number : ZCf := (yX9_number, cX9_number, 5, some .int, [], 3, 0, 0, zft_X9, none)
theorem cal_Model_number : zCallee cf_Model_number 2 := ⟨rfl, zc_yX9_number, by decide, by decide, by decide +kernel⟩
def L_Model_number_18 (c1 : Int) (c2 : Int) (c3 : Int) (K : Int → ZMem → Option ZRes) : Nat → Int → ZMem → Option ZRes
  | 0, _, _ => none
  | n + 1, v4, μ => if w32 (μ 0 22) ≤ w32 (μ 0 23) then (K v4 μ) else (zRd μ 15 400 (μ 0 23) (fun x3 => zC (F_Model_isIn (w32 x3) 48 57 μ) (zkI (fun x5 _ => if w32 x5 = 0 then (K v4 μ) else (if w32 4 < w32 ((μ 0 23) - c3) then (K v4 μ) else (zRd μ 15 400 (μ 0 23) (fun x6 => zLet ((((10 * v4) + x6) - 48)) (fun x7 => zLet (zUp μ 0 23 ((μ 0 23) + 1)) (fun μ8 => L_Model_number_18 c1 c2 c3 K n x7 μ8))))))) zX0))
set_option maxRecDepth 100000 in
theorem l_Model_number_18 {c1 : Int} {c2 : Int} {c3 : Int} {K : Int → ZMem → Option ZRes} (hK : ∀ (k4 : Int) (μ : ZMem), AW cf_Model_number S_Model.length S_Model S_Model 94 [(0, zR (some 0)), (1, zI c1), (2, zI c2), (3, zI c3), (4, zI k4)] [] μ 0 0 (K k4 μ)) : ∀ (n : Nat) (v4 : Int) (μ : ZMem), AW cf_Model_number S_Model.length S_Model S_Model 18 [(0, zR (some 0)), (1, zI c1), (2, zI c2), (3, zI c3), (4, zI v4)] [] μ 0 0 (L_Model_number_18 c1 c2 c3 K n v4 μ) := by
  intro n
  induction n with
  | zero => intro v4 μ; exact AW.noth
  | succ n ih =>
    intro v4 μ
    rw [L_Model_number_18]
    refine AW.aload_n (i := 0) (a := 0) (by decide +kernel) rfl (?_ : AW _ _ _ _ 19 _ _ _ _ _ _)
    refine AW.getI (idx := 242) (ci := 9) (k := 23) (r := 0) (by decide +kernel) rfl rfl rfl (?_ : AW _ _ _ _ 22 _ _ _ _ _ _)
    refine AW.aload_n (i := 0) (a := 0) (by decide +kernel) rfl (?_ : AW _ _ _ _ 23 _ _ _ _ _ _)
    refine AW.getI (idx := 239) (ci := 9) (k := 22) (r := 0) (by decide +kernel) rfl rfl rfl (?_ : AW _ _ _ _ 26 _ _ _ _ _ _)
    refine AW.icmp_ge (off := 68) (tgt := 94) (by decide +kernel) (by decide) (fun _ => ?_) (fun _ => ?_)
    · exact hK v4 μ
    · refine AW.aload_n (i := 0) (a := 0) (by decide +kernel) rfl (?_ : AW _ _ _ _ 30 _ _ _ _ _ _)
      refine AW.getR (idx := 57) (ci := 9) (k := 20) (r := 0) (by decide +kernel) rfl rfl rfl (?_ : AW _ _ _ _ 33 _ _ _ _ _ _)
      refine AW.aload_n (i := 0) (a := 0) (by decide +kernel) rfl (?_ : AW _ _ _ _ 34 _ _ _ _ _ _)
      refine AW.getI (idx := 242) (ci := 9) (k := 23) (r := 0) (by decide +kernel) rfl rfl rfl (?_ : AW _ _ _ _ 37 _ _ _ _ _ _)
      refine AW.iald (r := 15) (by decide +kernel) rfl (fun x3 => (?_ : AW _ _ _ _ 38 _ _ _ _ _ _))
      refine AW.i2l (by decide +kernel) (?_ : AW _ _ _ _ 39 _ _ _ _ _ _)
      refine AW.ldc2 (idx := 262) (v := 48) (by decide +kernel) zk_X9_262 (?_ : AW _ _ _ _ 42 _ _ _ _ _ _)
      refine AW.ldc2 (idx := 264) (v := 57) (by decide +kernel) zk_X9_264 (?_ : AW _ _ _ _ 45 _ _ _ _ _ _)
      refine AW.callP (g := cf_Model_isIn) (av := [zJ (w32 x3), zJ 48, zJ 57]) (idx := 99) (n := 3) (st := []) (by decide +kernel) (fun l hl r hr => c_Model_isIn l hl (w32 x3) 48 57 _ r hr) rfl cal_Model_isIn rfl (zw3 zm_X9_99 zt_yX9_isIn zn_X9) ⟨by decide, by decide, by decide, by decide⟩ (Nat.le_of_ble_eq_true rfl) (fun v _ => AW.kI (fun x5 => (?_ : AW _ _ _ _ 48 _ _ _ _ _ _)) v)
      refine AW.if_eq (off := 46) (tgt := 94) (by decide +kernel) (by decide) (fun _ => ?_) (fun _ => ?_)
      · exact hK v4 μ
      · refine AW.aload_n (i := 0) (a := 0) (by decide +kernel) rfl (?_ : AW _ _ _ _ 52 _ _ _ _ _ _)
        refine AW.getI (idx := 242) (ci := 9) (k := 23) (r := 0) (by decide +kernel) rfl rfl rfl (?_ : AW _ _ _ _ 55 _ _ _ _ _ _)
        refine AW.iload_n (i := 3) (a := c3) (by decide +kernel) rfl (?_ : AW _ _ _ _ 56 _ _ _ _ _ _)
        refine AW.isub (by decide +kernel) (?_ : AW _ _ _ _ 57 _ _ _ _ _ _)
        refine AW.iconst (n := 4) (by decide +kernel) (?_ : AW _ _ _ _ 58 _ _ _ _ _ _)
        refine AW.icmp_gt (off := 36) (tgt := 94) (by decide +kernel) (by decide) (fun _ => ?_) (fun _ => ?_)
        · exact hK v4 μ
        · refine AW.bipush (n := 10) (by decide +kernel) (by decide +kernel) (?_ : AW _ _ _ _ 63 _ _ _ _ _ _)
          refine AW.iload (i := 4) (a := v4) (by decide +kernel) rfl (?_ : AW _ _ _ _ 65 _ _ _ _ _ _)
          refine AW.imul (by decide +kernel) (?_ : AW _ _ _ _ 66 _ _ _ _ _ _)
          refine AW.aload_n (i := 0) (a := 0) (by decide +kernel) rfl (?_ : AW _ _ _ _ 67 _ _ _ _ _ _)
          refine AW.getR (idx := 57) (ci := 9) (k := 20) (r := 0) (by decide +kernel) rfl rfl rfl (?_ : AW _ _ _ _ 70 _ _ _ _ _ _)
          refine AW.aload_n (i := 0) (a := 0) (by decide +kernel) rfl (?_ : AW _ _ _ _ 71 _ _ _ _ _ _)
          refine AW.getI (idx := 242) (ci := 9) (k := 23) (r := 0) (by decide +kernel) rfl rfl rfl (?_ : AW _ _ _ _ 74 _ _ _ _ _ _)
          refine AW.iald (r := 15) (by decide +kernel) rfl (fun x6 => (?_ : AW _ _ _ _ 75 _ _ _ _ _ _))
          refine AW.iadd (by decide +kernel) (?_ : AW _ _ _ _ 76 _ _ _ _ _ _)
          refine AW.bipush (n := 48) (by decide +kernel) (by decide +kernel) (?_ : AW _ _ _ _ 78 _ _ _ _ _ _)
          refine AW.isub (by decide +kernel) (?_ : AW _ _ _ _ 79 _ _ _ _ _ _)
          refine AW.istoreL (i := 4) (L' := fun x7 => [(4, zI x7), (0, zR (some 0)), (1, zI c1), (2, zI c2), (3, zI c3)]) (by decide +kernel) (by decide) (fun _ => rfl) (fun x7 => (?_ : AW _ _ _ _ 81 _ _ _ _ _ _))
          refine AW.aload_n (i := 0) (a := 0) (by decide +kernel) rfl (?_ : AW _ _ _ _ 82 _ _ _ _ _ _)
          refine AW.dup (by decide +kernel) rfl (?_ : AW _ _ _ _ 83 _ _ _ _ _ _)
          refine AW.getI (idx := 242) (ci := 9) (k := 23) (r := 0) (by decide +kernel) rfl rfl rfl (?_ : AW _ _ _ _ 86 _ _ _ _ _ _)
          refine AW.iconst (n := 1) (by decide +kernel) (?_ : AW _ _ _ _ 87 _ _ _ _ _ _)
          refine AW.iadd (by decide +kernel) (?_ : AW _ _ _ _ 88 _ _ _ _ _ _)
          refine AW.putiL (idx := 242) (ci := 9) (k := 23) (r := 0) (by decide +kernel) rfl rfl rfl (fun μ8 => (?_ : AW _ _ _ _ 91 _ _ _ _ _ _))
          refine AW.goto (off := -73) (tgt := 18) (by decide +kernel) (by decide) ?_
          refine AW.sub (L' := [(0, zR (some 0)), (1, zI c1), (2, zI c2), (3, zI c3), (4, zI x7)]) [1, 2, 3, 4, 0] rfl ?_
          exact ih x7 μ8
def J_Model_number_124 (u3 : Int) (u4 : Int) (μ : ZMem) : Option ZRes := zC (F_Model_wrong u3 μ) (zkV (fun μ11 => some (.inr (some (zI u4)), μ11))) zX0
set_option maxRecDepth 100000 in
theorem j_Model_number_124 (u3 : Int) (u4 : Int) (μ : ZMem) : AW cf_Model_number S_Model.length S_Model S_Model 124 [(0, zR (some 0)), (3, zI u3), (4, zI u4)] [] μ 0 0 (J_Model_number_124 u3 u4 μ) := by
  unfold J_Model_number_124
  refine AW.aload_n (i := 0) (a := 0) (by decide +kernel) rfl (?_ : AW _ _ _ _ 125 _ _ _ _ _ _)
  refine AW.iload_n (i := 3) (a := u3) (by decide +kernel) rfl (?_ : AW _ _ _ _ 126 _ _ _ _ _ _)
  refine AW.callVw (g := cf_Model_wrong) (av := [zI u3]) (b0 := 0) (ci := 9) (idx := 266) (n := 1) (st := []) (by decide +kernel) (fun l hl r hr => c_Model_wrong l hl u3 _ r hr) S_Model_wf rfl cal_Model_wrong rfl (zw4 zm_X9_266 zi_yX9_wrong zs_yX9_wrong zn_X9) rfl rfl ⟨by decide, by decide, by decide, by decide⟩ (Nat.le_of_ble_eq_true rfl) (Or.inl rfl) (fun v μ11 => AW.kV (?_ : AW _ _ _ _ 129 _ _ _ _ _ _) v)
  refine AW.iload (i := 4) (a := u4) (by decide +kernel) rfl (?_ : AW _ _ _ _ 131 _ _ _ _ _ _)
  exact AW.reti (by decide +kernel) rfl (by decide) (by decide)
def F_Model_number (a1 : Int) (a2 : Int) (μ : ZMem) : Option ZRes := if w32 (μ 0 24) = w32 (-1) then (zC (F_Model_here  μ) (zkI (fun x2 μ1 => L_Model_number_18 a1 a2 x2 (fun k10 μ9 => if w32 (μ9 0 23) = w32 x2 then (J_Model_number_124 x2 k10 μ9) else (if w32 4 < w32 ((μ9 0 23) - x2) then (J_Model_number_124 x2 k10 μ9) else (if w32 k10 < w32 a1 then (J_Model_number_124 x2 k10 μ9) else (if w32 k10 ≤ w32 a2 then (some (.inr (some (zI k10)), μ9)) else (J_Model_number_124 x2 k10 μ9))))) zN 0 μ1)) zX0) else (some (.inr (some (zI 0)), μ))
set_option maxRecDepth 100000 in
theorem w_Model_number (a1 : Int) (a2 : Int) (μ : ZMem) : AW cf_Model_number S_Model.length S_Model S_Model 0 [(0, zR (some 0)), (1, zI a1), (2, zI a2)] [] μ 0 0 (F_Model_number a1 a2 μ) := by
  unfold F_Model_number
  refine AW.aload_n (i := 0) (a := 0) (by decide +kernel) rfl (?_ : AW _ _ _ _ 1 _ _ _ _ _ _)
  refine AW.getI (idx := 60) (ci := 9) (k := 24) (r := 0) (by decide +kernel) rfl rfl rfl (?_ : AW _ _ _ _ 4 _ _ _ _ _ _)
  refine AW.iconst (n := -1) (by decide +kernel) (?_ : AW _ _ _ _ 5 _ _ _ _ _ _)
  refine AW.icmp_eq (off := 5) (tgt := 10) (by decide +kernel) (by decide) (fun _ => ?_) (fun _ => ?_)
  · refine AW.aload_n (i := 0) (a := 0) (by decide +kernel) rfl (?_ : AW _ _ _ _ 11 _ _ _ _ _ _)
    refine AW.callVw (g := cf_Model_here) (av := []) (b0 := 0) (ci := 9) (idx := 245) (n := 0) (st := []) (by decide +kernel) (fun l hl r hr => c_Model_here l hl  _ r hr) S_Model_wf rfl cal_Model_here rfl (zw4 zm_X9_245 zi_yX9_here zs_yX9_here zn_X9) rfl rfl ⟨by decide, by decide, by decide, by decide⟩ (Nat.le_of_ble_eq_true rfl) (Or.inl rfl) (fun v μ1 => AW.kI (fun x2 => (?_ : AW _ _ _ _ 14 _ _ _ _ _ _)) v)
    refine AW.istore_n' (i := 3) (L' := [(3, zI x2), (0, zR (some 0)), (1, zI a1), (2, zI a2)]) (by decide +kernel) (by decide) rfl (?_ : AW _ _ _ _ 15 _ _ _ _ _ _)
    refine AW.iconst (n := 0) (by decide +kernel) (?_ : AW _ _ _ _ 16 _ _ _ _ _ _)
    refine AW.istore' (i := 4) (L' := [(4, zI 0), (3, zI x2), (0, zR (some 0)), (1, zI a1), (2, zI a2)]) (by decide +kernel) (by decide) rfl (?_ : AW _ _ _ _ 18 _ _ _ _ _ _)
    refine AW.sub (L' := [(0, zR (some 0)), (1, zI a1), (2, zI a2), (3, zI x2), (4, zI 0)]) [2, 3, 4, 1, 0] rfl ?_
    refine l_Model_number_18 (fun k10 μ9 => ?_) zN _ _
    refine AW.aload_n (i := 0) (a := 0) (by decide +kernel) rfl (?_ : AW _ _ _ _ 95 _ _ _ _ _ _)
    refine AW.getI (idx := 242) (ci := 9) (k := 23) (r := 0) (by decide +kernel) rfl rfl rfl (?_ : AW _ _ _ _ 98 _ _ _ _ _ _)
    refine AW.iload_n (i := 3) (a := x2) (by decide +kernel) rfl (?_ : AW _ _ _ _ 99 _ _ _ _ _ _)
    refine AW.icmp_eq (off := 25) (tgt := 124) (by decide +kernel) (by decide) (fun _ => ?_) (fun _ => ?_)
    · refine AW.sub (L' := [(0, zR (some 0)), (3, zI x2), (4, zI k10)]) [0, 3, 4] rfl ?_
      exact j_Model_number_124 x2 k10 μ9
    · refine AW.aload_n (i := 0) (a := 0) (by decide +kernel) rfl (?_ : AW _ _ _ _ 103 _ _ _ _ _ _)
      refine AW.getI (idx := 242) (ci := 9) (k := 23) (r := 0) (by decide +kernel) rfl rfl rfl (?_ : AW _ _ _ _ 106 _ _ _ _ _ _)
      refine AW.iload_n (i := 3) (a := x2) (by decide +kernel) rfl (?_ : AW _ _ _ _ 107 _ _ _ _ _ _)
      refine AW.isub (by decide +kernel) (?_ : AW _ _ _ _ 108 _ _ _ _ _ _)
      refine AW.iconst (n := 4) (by decide +kernel) (?_ : AW _ _ _ _ 109 _ _ _ _ _ _)
      refine AW.icmp_gt (off := 15) (tgt := 124) (by decide +kernel) (by decide) (fun _ => ?_) (fun _ => ?_)
      · refine AW.sub (L' := [(0, zR (some 0)), (3, zI x2), (4, zI k10)]) [0, 3, 4] rfl ?_
        exact j_Model_number_124 x2 k10 μ9
      · refine AW.iload (i := 4) (a := k10) (by decide +kernel) rfl (?_ : AW _ _ _ _ 114 _ _ _ _ _ _)
        refine AW.iload_n (i := 1) (a := a1) (by decide +kernel) rfl (?_ : AW _ _ _ _ 115 _ _ _ _ _ _)
        refine AW.icmp_lt (off := 9) (tgt := 124) (by decide +kernel) (by decide) (fun _ => ?_) (fun _ => ?_)
        · refine AW.sub (L' := [(0, zR (some 0)), (3, zI x2), (4, zI k10)]) [0, 3, 4] rfl ?_
          exact j_Model_number_124 x2 k10 μ9
        · refine AW.iload (i := 4) (a := k10) (by decide +kernel) rfl (?_ : AW _ _ _ _ 120 _ _ _ _ _ _)
          refine AW.iload_n (i := 2) (a := a2) (by decide +kernel) rfl (?_ : AW _ _ _ _ 121 _ _ _ _ _ _)
          refine AW.icmp_le (off := 8) (tgt := 129) (by decide +kernel) (by decide) (fun _ => ?_) (fun _ => ?_)
          · refine AW.iload (i := 4) (a := k10) (by decide +kernel) rfl (?_ : AW _ _ _ _ 131 _ _ _ _ _ _)
            exact AW.reti (by decide +kernel) rfl (by decide) (by decide)
          · refine AW.sub (L' := [(0, zR (some 0)), (3, zI x2), (4, zI k10)]) [0, 3, 4] rfl ?_
            exact j_Model_number_124 x2 k10 μ9
  · refine AW.iconst (n := 0) (by decide +kernel) (?_ : AW _ _ _ _ 9 _ _ _ _ _ _)
    exact AW.reti (by decide +kernel) rfl (by decide) (by decide)
theorem c_Model_number (l : Launch) (hl : l.stackTraces = false) (a1 : Int) (a2 : Int) (μ : ZMem) (r : ZRes) (h : F_Model_number a1 a2 μ = some r) : ZC l cf_Model_number S_Model S_Model [zR (some 0), zI a1, zI a2] μ r := ZC.of hl (by decide +kernel) rfl rfl zft_X9_ok (Nat.le_of_ble_eq_true rfl) h (w_Model_number a1 a2 μ)
/-! WeirLedgerModel.comesMore(II)Z -/
def cf_Model_comesMore : ZCf := (yX9_comesMore, cX9_comesMore, 3, some .boolean, [], 3, 0, 0, zft_X9, none)
theorem cal_Model_comesMore : zCallee cf_Model_comesMore 2 := ⟨rfl, zc_yX9_comesMore, by decide, by decide, by decide +kernel⟩
def J_Model_comesMore_100 (μ : ZMem) : Option ZRes := if w32 (μ 0 24) = w32 (-1) then (some (.inr (some (zI 1)), μ)) else (some (.inr (some (zI 0)), μ))
set_option maxRecDepth 100000 in
theorem j_Model_comesMore_100 (μ : ZMem) : AW cf_Model_comesMore S_Model.length S_Model S_Model 100 [(0, zR (some 0))] [] μ 0 0 (J_Model_comesMore_100 μ) := by
  unfold J_Model_comesMore_100
  refine AW.aload_n (i := 0) (a := 0) (by decide +kernel) rfl (?_ : AW _ _ _ _ 101 _ _ _ _ _ _)
  refine AW.getI (idx := 60) (ci := 9) (k := 24) (r := 0) (by decide +kernel) rfl rfl rfl (?_ : AW _ _ _ _ 104 _ _ _ _ _ _)
  refine AW.iconst (n := -1) (by decide +kernel) (?_ : AW _ _ _ _ 105 _ _ _ _ _ _)
  refine AW.icmp_ne (off := 7) (tgt := 112) (by decide +kernel) (by decide) (fun _ => ?_) (fun _ => ?_)
  · refine AW.iconst (n := 1) (by decide +kernel) (?_ : AW _ _ _ _ 109 _ _ _ _ _ _)
    refine AW.goto (off := 4) (tgt := 113) (by decide +kernel) (by decide) ?_
    exact AW.retb1 (by decide +kernel) rfl (by decide) (by decide) (by decide)
  · refine AW.iconst (n := 0) (by decide +kernel) (?_ : AW _ _ _ _ 113 _ _ _ _ _ _)
    exact AW.retb1 (by decide +kernel) rfl (by decide) (by decide) (by decide)
def J_Model_comesMore_79 (a1 : Int) (a2 : Int) (μ : ZMem) : Option ZRes := if w32 (μ 0 24) = w32 (-1) then (if w32 a1 = w32 a2 then (zC (F_Model_here  μ) (zkI (fun x8 μ7 => zC (F_Model_wrong x8 μ7) (zkV (fun μ9 => J_Model_comesMore_100 μ9)) zX0)) zX0) else (J_Model_comesMore_100 μ)) else (J_Model_comesMore_100 μ)
set_option maxRecDepth 100000 in
theorem j_Model_comesMore_79 (a1 : Int) (a2 : Int) (μ : ZMem) : AW cf_Model_comesMore S_Model.length S_Model S_Model 79 [(0, zR (some 0)), (1, zI a1), (2, zI a2)] [] μ 0 0 (J_Model_comesMore_79 a1 a2 μ) := by
  unfold J_Model_comesMore_79
  refine AW.aload_n (i := 0) (a := 0) (by decide +kernel) rfl (?_ : AW _ _ _ _ 80 _ _ _ _ _ _)
  refine AW.getI (idx := 60) (ci := 9) (k := 24) (r := 0) (by decide +kernel) rfl rfl rfl (?_ : AW _ _ _ _ 83 _ _ _ _ _ _)
  refine AW.iconst (n := -1) (by decide +kernel) (?_ : AW _ _ _ _ 84 _ _ _ _ _ _)
  refine AW.icmp_ne (off := 16) (tgt := 100) (by decide +kernel) (by decide) (fun _ => ?_) (fun _ => ?_)
  · refine AW.iload_n (i := 1) (a := a1) (by decide +kernel) rfl (?_ : AW _ _ _ _ 88 _ _ _ _ _ _)
    refine AW.iload_n (i := 2) (a := a2) (by decide +kernel) rfl (?_ : AW _ _ _ _ 89 _ _ _ _ _ _)
    refine AW.icmp_ne (off := 11) (tgt := 100) (by decide +kernel) (by decide) (fun _ => ?_) (fun _ => ?_)
    · refine AW.aload_n (i := 0) (a := 0) (by decide +kernel) rfl (?_ : AW _ _ _ _ 93 _ _ _ _ _ _)
      refine AW.aload_n (i := 0) (a := 0) (by decide +kernel) rfl (?_ : AW _ _ _ _ 94 _ _ _ _ _ _)
      refine AW.callVw (g := cf_Model_here) (av := []) (b0 := 0) (ci := 9) (idx := 245) (n := 0) (st := [zR (some 0)]) (by decide +kernel) (fun l hl r hr => c_Model_here l hl  _ r hr) S_Model_wf rfl cal_Model_here rfl (zw4 zm_X9_245 zi_yX9_here zs_yX9_here zn_X9) rfl rfl ⟨by decide, by decide, by decide, by decide⟩ (Nat.le_of_ble_eq_true rfl) (Or.inl rfl) (fun v μ7 => AW.kI (fun x8 => (?_ : AW _ _ _ _ 97 _ _ _ _ _ _)) v)
      refine AW.callVw (g := cf_Model_wrong) (av := [zI x8]) (b0 := 0) (ci := 9) (idx := 266) (n := 1) (st := []) (by decide +kernel) (fun l hl r hr => c_Model_wrong l hl x8 _ r hr) S_Model_wf rfl cal_Model_wrong rfl (zw4 zm_X9_266 zi_yX9_wrong zs_yX9_wrong zn_X9) rfl rfl ⟨by decide, by decide, by decide, by decide⟩ (Nat.le_of_ble_eq_true rfl) (Or.inl rfl) (fun v μ9 => AW.kV (?_ : AW _ _ _ _ 100 _ _ _ _ _ _) v)
      refine AW.sub (L' := [(0, zR (some 0))]) [0] rfl ?_
      exact j_Model_comesMore_100 μ9
    · refine AW.sub (L' := [(0, zR (some 0))]) [0] rfl ?_
      exact j_Model_comesMore_100 μ
  · refine AW.sub (L' := [(0, zR (some 0))]) [0] rfl ?_
    exact j_Model_comesMore_100 μ
def F_Model_comesMore (a1 : Int) (a2 : Int) (μ : ZMem) : Option ZRes := if w32 (μ 0 24) = w32 (-1) then (if w32 a1 = 0 then (zC (F_Model_here  μ) (zkI (fun x2 μ1 => if w32 (μ1 0 22) ≤ w32 x2 then (some (.inr (some (zI 0)), μ1)) else (some (.inr (some (zI 1)), μ1)))) zX0) else (zC (F_Model_here  μ) (zkI (fun x4 μ3 => if w32 x4 = w32 (μ3 0 22) then (some (.inr (some (zI 0)), μ3)) else (zRd μ3 15 400 (μ3 0 23) (fun x5 => if w32 x5 = w32 59 then (zLet (zUp μ3 0 23 ((μ3 0 23) + 1)) (fun μ6 => J_Model_comesMore_79 a1 a2 μ6)) else (zC (F_Model_wrong (μ3 0 23) μ3) (zkV (fun μ11 => J_Model_comesMore_79 a1 a2 μ11)) zX0))))) zX0)) else (some (.inr (some (zI 0)), μ))
set_option maxRecDepth 100000 in
theorem w_Model_comesMore (a1 : Int) (a2 : Int) (μ : ZMem) : AW cf_Model_comesMore S_Model.length S_Model S_Model 0 [(0, zR (some 0)), (1, zI a1), (2, zI a2)] [] μ 0 0 (F_Model_comesMore a1 a2 μ) := by
  unfold F_Model_comesMore
  refine AW.aload_n (i := 0) (a := 0) (by decide +kernel) rfl (?_ : AW _ _ _ _ 1 _ _ _ _ _ _)
  refine AW.getI (idx := 60) (ci := 9) (k := 24) (r := 0) (by decide +kernel) rfl rfl rfl (?_ : AW _ _ _ _ 4 _ _ _ _ _ _)
  refine AW.iconst (n := -1) (by decide +kernel) (?_ : AW _ _ _ _ 5 _ _ _ _ _ _)
  refine AW.icmp_eq (off := 5) (tgt := 10) (by decide +kernel) (by decide) (fun _ => ?_) (fun _ => ?_)
  · refine AW.iload_n (i := 1) (a := a1) (by decide +kernel) rfl (?_ : AW _ _ _ _ 11 _ _ _ _ _ _)
    refine AW.if_ne (off := 20) (tgt := 31) (by decide +kernel) (by decide) (fun _ => ?_) (fun _ => ?_)
    · refine AW.aload_n (i := 0) (a := 0) (by decide +kernel) rfl (?_ : AW _ _ _ _ 15 _ _ _ _ _ _)
      refine AW.callVw (g := cf_Model_here) (av := []) (b0 := 0) (ci := 9) (idx := 245) (n := 0) (st := []) (by decide +kernel) (fun l hl r hr => c_Model_here l hl  _ r hr) S_Model_wf rfl cal_Model_here rfl (zw4 zm_X9_245 zi_yX9_here zs_yX9_here zn_X9) rfl rfl ⟨by decide, by decide, by decide, by decide⟩ (Nat.le_of_ble_eq_true rfl) (Or.inl rfl) (fun v μ1 => AW.kI (fun x2 => (?_ : AW _ _ _ _ 18 _ _ _ _ _ _)) v)
      refine AW.aload_n (i := 0) (a := 0) (by decide +kernel) rfl (?_ : AW _ _ _ _ 19 _ _ _ _ _ _)
      refine AW.getI (idx := 239) (ci := 9) (k := 22) (r := 0) (by decide +kernel) rfl rfl rfl (?_ : AW _ _ _ _ 22 _ _ _ _ _ _)
      refine AW.icmp_ge (off := 7) (tgt := 29) (by decide +kernel) (by decide) (fun _ => ?_) (fun _ => ?_)
      · refine AW.iconst (n := 0) (by decide +kernel) (?_ : AW _ _ _ _ 30 _ _ _ _ _ _)
        exact AW.retb1 (by decide +kernel) rfl (by decide) (by decide) (by decide)
      · refine AW.iconst (n := 1) (by decide +kernel) (?_ : AW _ _ _ _ 26 _ _ _ _ _ _)
        refine AW.goto (off := 4) (tgt := 30) (by decide +kernel) (by decide) ?_
        exact AW.retb1 (by decide +kernel) rfl (by decide) (by decide) (by decide)
    · refine AW.aload_n (i := 0) (a := 0) (by decide +kernel) rfl (?_ : AW _ _ _ _ 32 _ _ _ _ _ _)
      refine AW.callVw (g := cf_Model_here) (av := []) (b0 := 0) (ci := 9) (idx := 245) (n := 0) (st := []) (by decide +kernel) (fun l hl r hr => c_Model_here l hl  _ r hr) S_Model_wf rfl cal_Model_here rfl (zw4 zm_X9_245 zi_yX9_here zs_yX9_here zn_X9) rfl rfl ⟨by decide, by decide, by decide, by decide⟩ (Nat.le_of_ble_eq_true rfl) (Or.inl rfl) (fun v μ3 => AW.kI (fun x4 => (?_ : AW _ _ _ _ 35 _ _ _ _ _ _)) v)
      refine AW.aload_n (i := 0) (a := 0) (by decide +kernel) rfl (?_ : AW _ _ _ _ 36 _ _ _ _ _ _)
      refine AW.getI (idx := 239) (ci := 9) (k := 22) (r := 0) (by decide +kernel) rfl rfl rfl (?_ : AW _ _ _ _ 39 _ _ _ _ _ _)
      refine AW.icmp_ne (off := 5) (tgt := 44) (by decide +kernel) (by decide) (fun _ => ?_) (fun _ => ?_)
      · refine AW.iconst (n := 0) (by decide +kernel) (?_ : AW _ _ _ _ 43 _ _ _ _ _ _)
        exact AW.retb1 (by decide +kernel) rfl (by decide) (by decide) (by decide)
      · refine AW.aload_n (i := 0) (a := 0) (by decide +kernel) rfl (?_ : AW _ _ _ _ 45 _ _ _ _ _ _)
        refine AW.getR (idx := 57) (ci := 9) (k := 20) (r := 0) (by decide +kernel) rfl rfl rfl (?_ : AW _ _ _ _ 48 _ _ _ _ _ _)
        refine AW.aload_n (i := 0) (a := 0) (by decide +kernel) rfl (?_ : AW _ _ _ _ 49 _ _ _ _ _ _)
        refine AW.getI (idx := 242) (ci := 9) (k := 23) (r := 0) (by decide +kernel) rfl rfl rfl (?_ : AW _ _ _ _ 52 _ _ _ _ _ _)
        refine AW.iald (r := 15) (by decide +kernel) rfl (fun x5 => (?_ : AW _ _ _ _ 53 _ _ _ _ _ _))
        refine AW.bipush (n := 59) (by decide +kernel) (by decide +kernel) (?_ : AW _ _ _ _ 55 _ _ _ _ _ _)
        refine AW.icmp_eq (off := 14) (tgt := 69) (by decide +kernel) (by decide) (fun _ => ?_) (fun _ => ?_)
        · refine AW.aload_n (i := 0) (a := 0) (by decide +kernel) rfl (?_ : AW _ _ _ _ 70 _ _ _ _ _ _)
          refine AW.dup (by decide +kernel) rfl (?_ : AW _ _ _ _ 71 _ _ _ _ _ _)
          refine AW.getI (idx := 242) (ci := 9) (k := 23) (r := 0) (by decide +kernel) rfl rfl rfl (?_ : AW _ _ _ _ 74 _ _ _ _ _ _)
          refine AW.iconst (n := 1) (by decide +kernel) (?_ : AW _ _ _ _ 75 _ _ _ _ _ _)
          refine AW.iadd (by decide +kernel) (?_ : AW _ _ _ _ 76 _ _ _ _ _ _)
          refine AW.putiL (idx := 242) (ci := 9) (k := 23) (r := 0) (by decide +kernel) rfl rfl rfl (fun μ6 => (?_ : AW _ _ _ _ 79 _ _ _ _ _ _))
          exact j_Model_comesMore_79 a1 a2 μ6
        · refine AW.aload_n (i := 0) (a := 0) (by decide +kernel) rfl (?_ : AW _ _ _ _ 59 _ _ _ _ _ _)
          refine AW.aload_n (i := 0) (a := 0) (by decide +kernel) rfl (?_ : AW _ _ _ _ 60 _ _ _ _ _ _)
          refine AW.getI (idx := 242) (ci := 9) (k := 23) (r := 0) (by decide +kernel) rfl rfl rfl (?_ : AW _ _ _ _ 63 _ _ _ _ _ _)
          refine AW.callVw (g := cf_Model_wrong) (av := [zI (μ3 0 23)]) (b0 := 0) (ci := 9) (idx := 266) (n := 1) (st := []) (by decide +kernel) (fun l hl r hr => c_Model_wrong l hl (μ3 0 23) _ r hr) S_Model_wf rfl cal_Model_wrong rfl (zw4 zm_X9_266 zi_yX9_wrong zs_yX9_wrong zn_X9) rfl rfl ⟨by decide, by decide, by decide, by decide⟩ (Nat.le_of_ble_eq_true rfl) (Or.inl rfl) (fun v μ11 => AW.kV (?_ : AW _ _ _ _ 66 _ _ _ _ _ _) v)
          refine AW.goto (off := 13) (tgt := 79) (by decide +kernel) (by decide) ?_
          exact j_Model_comesMore_79 a1 a2 μ11
  · refine AW.iconst (n := 0) (by decide +kernel) (?_ : AW _ _ _ _ 9 _ _ _ _ _ _)
    exact AW.retb1 (by decide +kernel) rfl (by decide) (by decide) (by decide)
theorem c_Model_comesMore (l : Launch) (hl : l.stackTraces = false) (a1 : Int) (a2 : Int) (μ : ZMem) (r : ZRes) (h : F_Model_comesMore a1 a2 μ = some r) : ZC l cf_Model_comesMore S_Model S_Model [zR (some 0), zI a1, zI a2] μ r := ZC.of hl (by decide +kernel) rfl rfl zft_X9_ok (Nat.le_of_ble_eq_true rfl) h (w_Model_comesMore a1 a2 μ)
/-! WeirLedgerModel.excuseLine()V -/
def cf_Model_excuseLine : ZCf := (yX9_excuseLine, cX9_excuseLine, 5, none, [], 4, 0, 0, zft_X9, none)
theorem cal_Model_excuseLine : zCallee cf_Model_excuseLine 0 := ⟨rfl, zc_yX9_excuseLine, by decide, by decide, by decide +kernel⟩
def J_Model_excuseLine_74 (u2 : Int) (u3 : Int) (u4 : Int) (μ : ZMem) : Option ZRes := zC (F_Model_wrong u2 μ) (zkV (fun μ10 => zWr μ10 18 6 u3 u4 (fun μ12 => some (.inr none, μ12)))) zX0
set_option maxRecDepth 100000 in
theorem j_Model_excuseLine_74 (u2 : Int) (u3 : Int) (u4 : Int) (μ : ZMem) : AW cf_Model_excuseLine S_Model.length S_Model S_Model 74 [(0, zR (some 0)), (2, zI u2), (3, zI u3), (4, zI u4)] [] μ 0 0 (J_Model_excuseLine_74 u2 u3 u4 μ) := by
  unfold J_Model_excuseLine_74
  refine AW.aload_n (i := 0) (a := 0) (by decide +kernel) rfl (?_ : AW _ _ _ _ 75 _ _ _ _ _ _)
  refine AW.iload_n (i := 2) (a := u2) (by decide +kernel) rfl (?_ : AW _ _ _ _ 76 _ _ _ _ _ _)
  refine AW.callVw (g := cf_Model_wrong) (av := [zI u2]) (b0 := 0) (ci := 9) (idx := 266) (n := 1) (st := []) (by decide +kernel) (fun l hl r hr => c_Model_wrong l hl u2 _ r hr) S_Model_wf rfl cal_Model_wrong rfl (zw4 zm_X9_266 zi_yX9_wrong zs_yX9_wrong zn_X9) rfl rfl ⟨by decide, by decide, by decide, by decide⟩ (Nat.le_of_ble_eq_true rfl) (Or.inl rfl) (fun v μ10 => AW.kV (?_ : AW _ _ _ _ 79 _ _ _ _ _ _) v)
  refine AW.aload_n (i := 0) (a := 0) (by decide +kernel) rfl (?_ : AW _ _ _ _ 80 _ _ _ _ _ _)
  refine AW.getR (idx := 69) (ci := 9) (k := 27) (r := 0) (by decide +kernel) rfl rfl rfl (?_ : AW _ _ _ _ 83 _ _ _ _ _ _)
  refine AW.iload_n (i := 3) (a := u3) (by decide +kernel) rfl (?_ : AW _ _ _ _ 84 _ _ _ _ _ _)
  refine AW.iload (i := 4) (a := u4) (by decide +kernel) rfl (?_ : AW _ _ _ _ 86 _ _ _ _ _ _)
  refine AW.iastL (r := 18) (by decide +kernel) rfl (fun μ12 => (?_ : AW _ _ _ _ 87 _ _ _ _ _ _))
  exact AW.retv (by decide +kernel) rfl (by decide) (by decide)
def F_Model_excuseLine (μ : ZMem) : Option ZRes := zC (F_Model_number 0 ((μ 0 28) - 1) μ) (zkI (fun x2 μ1 => zC (F_Model_here  μ1) (zkI (fun x4 μ3 => zC (F_Model_number 0 ((μ3 0 29) - 1) μ3) (zkI (fun x6 μ5 => if w32 (μ5 0 24) = w32 (-1) then (zRd μ5 18 6 x6 (fun x7 => zLet ((zor x7 (zshl 1 x2))) (fun x8 => zRd μ5 18 6 x6 (fun x9 => if w32 x8 = w32 x9 then (J_Model_excuseLine_74 x4 x6 x8 μ5) else (if w32 x8 = w32 ((zshl 1 (μ5 0 28)) - 1) then (J_Model_excuseLine_74 x4 x6 x8 μ5) else (zWr μ5 18 6 x6 x8 (fun μ13 => some (.inr none, μ13)))))))) else (some (.inr none, μ5)))) zX0)) zX0)) zX0
set_option maxRecDepth 100000 in
theorem w_Model_excuseLine (μ : ZMem) : AW cf_Model_excuseLine S_Model.length S_Model S_Model 0 [(0, zR (some 0))] [] μ 0 0 (F_Model_excuseLine μ) := by
  unfold F_Model_excuseLine
  refine AW.aload_n (i := 0) (a := 0) (by decide +kernel) rfl (?_ : AW _ _ _ _ 1 _ _ _ _ _ _)
  refine AW.iconst (n := 0) (by decide +kernel) (?_ : AW _ _ _ _ 2 _ _ _ _ _ _)
  refine AW.aload_n (i := 0) (a := 0) (by decide +kernel) rfl (?_ : AW _ _ _ _ 3 _ _ _ _ _ _)
  refine AW.getI (idx := 291) (ci := 9) (k := 28) (r := 0) (by decide +kernel) rfl rfl rfl (?_ : AW _ _ _ _ 6 _ _ _ _ _ _)
  refine AW.iconst (n := 1) (by decide +kernel) (?_ : AW _ _ _ _ 7 _ _ _ _ _ _)
  refine AW.isub (by decide +kernel) (?_ : AW _ _ _ _ 8 _ _ _ _ _ _)
  refine AW.callVw (g := cf_Model_number) (av := [zI 0, zI ((μ 0 28) - 1)]) (b0 := 0) (ci := 9) (idx := 288) (n := 2) (st := []) (by decide +kernel) (fun l hl r hr => c_Model_number l hl 0 ((μ 0 28) - 1) _ r hr) S_Model_wf rfl cal_Model_number rfl (zw4 zm_X9_288 zi_yX9_number zs_yX9_number zn_X9) rfl rfl ⟨by decide, by decide, by decide, by decide⟩ (Nat.le_of_ble_eq_true rfl) (Or.inl rfl) (fun v μ1 => AW.kI (fun x2 => (?_ : AW _ _ _ _ 11 _ _ _ _ _ _)) v)
  refine AW.istore_n' (i := 1) (L' := [(1, zI x2), (0, zR (some 0))]) (by decide +kernel) (by decide) rfl (?_ : AW _ _ _ _ 12 _ _ _ _ _ _)
  refine AW.aload_n (i := 0) (a := 0) (by decide +kernel) rfl (?_ : AW _ _ _ _ 13 _ _ _ _ _ _)
  refine AW.callVw (g := cf_Model_here) (av := []) (b0 := 0) (ci := 9) (idx := 245) (n := 0) (st := []) (by decide +kernel) (fun l hl r hr => c_Model_here l hl  _ r hr) S_Model_wf rfl cal_Model_here rfl (zw4 zm_X9_245 zi_yX9_here zs_yX9_here zn_X9) rfl rfl ⟨by decide, by decide, by decide, by decide⟩ (Nat.le_of_ble_eq_true rfl) (Or.inl rfl) (fun v μ3 => AW.kI (fun x4 => (?_ : AW _ _ _ _ 16 _ _ _ _ _ _)) v)
  refine AW.istore_n' (i := 2) (L' := [(2, zI x4), (1, zI x2), (0, zR (some 0))]) (by decide +kernel) (by decide) rfl (?_ : AW _ _ _ _ 17 _ _ _ _ _ _)
  refine AW.aload_n (i := 0) (a := 0) (by decide +kernel) rfl (?_ : AW _ _ _ _ 18 _ _ _ _ _ _)
  refine AW.iconst (n := 0) (by decide +kernel) (?_ : AW _ _ _ _ 19 _ _ _ _ _ _)
  refine AW.aload_n (i := 0) (a := 0) (by decide +kernel) rfl (?_ : AW _ _ _ _ 20 _ _ _ _ _ _)
  refine AW.getI (idx := 294) (ci := 9) (k := 29) (r := 0) (by decide +kernel) rfl rfl rfl (?_ : AW _ _ _ _ 23 _ _ _ _ _ _)
  refine AW.iconst (n := 1) (by decide +kernel) (?_ : AW _ _ _ _ 24 _ _ _ _ _ _)
  refine AW.isub (by decide +kernel) (?_ : AW _ _ _ _ 25 _ _ _ _ _ _)
  refine AW.callVw (g := cf_Model_number) (av := [zI 0, zI ((μ3 0 29) - 1)]) (b0 := 0) (ci := 9) (idx := 288) (n := 2) (st := []) (by decide +kernel) (fun l hl r hr => c_Model_number l hl 0 ((μ3 0 29) - 1) _ r hr) S_Model_wf rfl cal_Model_number rfl (zw4 zm_X9_288 zi_yX9_number zs_yX9_number zn_X9) rfl rfl ⟨by decide, by decide, by decide, by decide⟩ (Nat.le_of_ble_eq_true rfl) (Or.inl rfl) (fun v μ5 => AW.kI (fun x6 => (?_ : AW _ _ _ _ 28 _ _ _ _ _ _)) v)
  refine AW.istore_n' (i := 3) (L' := [(3, zI x6), (2, zI x4), (1, zI x2), (0, zR (some 0))]) (by decide +kernel) (by decide) rfl (?_ : AW _ _ _ _ 29 _ _ _ _ _ _)
  refine AW.aload_n (i := 0) (a := 0) (by decide +kernel) rfl (?_ : AW _ _ _ _ 30 _ _ _ _ _ _)
  refine AW.getI (idx := 60) (ci := 9) (k := 24) (r := 0) (by decide +kernel) rfl rfl rfl (?_ : AW _ _ _ _ 33 _ _ _ _ _ _)
  refine AW.iconst (n := -1) (by decide +kernel) (?_ : AW _ _ _ _ 34 _ _ _ _ _ _)
  refine AW.icmp_eq (off := 4) (tgt := 38) (by decide +kernel) (by decide) (fun _ => ?_) (fun _ => ?_)
  · refine AW.aload_n (i := 0) (a := 0) (by decide +kernel) rfl (?_ : AW _ _ _ _ 39 _ _ _ _ _ _)
    refine AW.getR (idx := 69) (ci := 9) (k := 27) (r := 0) (by decide +kernel) rfl rfl rfl (?_ : AW _ _ _ _ 42 _ _ _ _ _ _)
    refine AW.iload_n (i := 3) (a := x6) (by decide +kernel) rfl (?_ : AW _ _ _ _ 43 _ _ _ _ _ _)
    refine AW.iald (r := 18) (by decide +kernel) rfl (fun x7 => (?_ : AW _ _ _ _ 44 _ _ _ _ _ _))
    refine AW.iconst (n := 1) (by decide +kernel) (?_ : AW _ _ _ _ 45 _ _ _ _ _ _)
    refine AW.iload_n (i := 1) (a := x2) (by decide +kernel) rfl (?_ : AW _ _ _ _ 46 _ _ _ _ _ _)
    refine AW.ishl (by decide +kernel) (?_ : AW _ _ _ _ 47 _ _ _ _ _ _)
    refine AW.ior (by decide +kernel) (?_ : AW _ _ _ _ 48 _ _ _ _ _ _)
    refine AW.istoreL (i := 4) (L' := fun x8 => [(4, zI x8), (3, zI x6), (2, zI x4), (1, zI x2), (0, zR (some 0))]) (by decide +kernel) (by decide) (fun _ => rfl) (fun x8 => (?_ : AW _ _ _ _ 50 _ _ _ _ _ _))
    refine AW.iload (i := 4) (a := x8) (by decide +kernel) rfl (?_ : AW _ _ _ _ 52 _ _ _ _ _ _)
    refine AW.aload_n (i := 0) (a := 0) (by decide +kernel) rfl (?_ : AW _ _ _ _ 53 _ _ _ _ _ _)
    refine AW.getR (idx := 69) (ci := 9) (k := 27) (r := 0) (by decide +kernel) rfl rfl rfl (?_ : AW _ _ _ _ 56 _ _ _ _ _ _)
    refine AW.iload_n (i := 3) (a := x6) (by decide +kernel) rfl (?_ : AW _ _ _ _ 57 _ _ _ _ _ _)
    refine AW.iald (r := 18) (by decide +kernel) rfl (fun x9 => (?_ : AW _ _ _ _ 58 _ _ _ _ _ _))
    refine AW.icmp_eq (off := 16) (tgt := 74) (by decide +kernel) (by decide) (fun _ => ?_) (fun _ => ?_)
    · refine AW.sub (L' := [(0, zR (some 0)), (2, zI x4), (3, zI x6), (4, zI x8)]) [4, 2, 1, 0] rfl ?_
      exact j_Model_excuseLine_74 x4 x6 x8 μ5
    · refine AW.iload (i := 4) (a := x8) (by decide +kernel) rfl (?_ : AW _ _ _ _ 63 _ _ _ _ _ _)
      refine AW.iconst (n := 1) (by decide +kernel) (?_ : AW _ _ _ _ 64 _ _ _ _ _ _)
      refine AW.aload_n (i := 0) (a := 0) (by decide +kernel) rfl (?_ : AW _ _ _ _ 65 _ _ _ _ _ _)
      refine AW.getI (idx := 291) (ci := 9) (k := 28) (r := 0) (by decide +kernel) rfl rfl rfl (?_ : AW _ _ _ _ 68 _ _ _ _ _ _)
      refine AW.ishl (by decide +kernel) (?_ : AW _ _ _ _ 69 _ _ _ _ _ _)
      refine AW.iconst (n := 1) (by decide +kernel) (?_ : AW _ _ _ _ 70 _ _ _ _ _ _)
      refine AW.isub (by decide +kernel) (?_ : AW _ _ _ _ 71 _ _ _ _ _ _)
      refine AW.icmp_ne (off := 8) (tgt := 79) (by decide +kernel) (by decide) (fun _ => ?_) (fun _ => ?_)
      · refine AW.sub (L' := [(0, zR (some 0)), (2, zI x4), (3, zI x6), (4, zI x8)]) [4, 2, 1, 0] rfl ?_
        exact j_Model_excuseLine_74 x4 x6 x8 μ5
      · refine AW.aload_n (i := 0) (a := 0) (by decide +kernel) rfl (?_ : AW _ _ _ _ 80 _ _ _ _ _ _)
        refine AW.getR (idx := 69) (ci := 9) (k := 27) (r := 0) (by decide +kernel) rfl rfl rfl (?_ : AW _ _ _ _ 83 _ _ _ _ _ _)
        refine AW.iload_n (i := 3) (a := x6) (by decide +kernel) rfl (?_ : AW _ _ _ _ 84 _ _ _ _ _ _)
        refine AW.iload (i := 4) (a := x8) (by decide +kernel) rfl (?_ : AW _ _ _ _ 86 _ _ _ _ _ _)
        refine AW.iastL (r := 18) (by decide +kernel) rfl (fun μ13 => (?_ : AW _ _ _ _ 87 _ _ _ _ _ _))
        exact AW.retv (by decide +kernel) rfl (by decide) (by decide)
  · exact AW.retv (by decide +kernel) rfl (by decide) (by decide)
theorem c_Model_excuseLine (l : Launch) (hl : l.stackTraces = false) (μ : ZMem) (r : ZRes) (h : F_Model_excuseLine μ = some r) : ZC l cf_Model_excuseLine S_Model S_Model [zR (some 0)] μ r := ZC.of hl (by decide +kernel) rfl rfl zft_X9_ok (Nat.le_of_ble_eq_true rfl) h (w_Model_excuseLine μ)
/-! WeirLedgerModel.actLine()V -/
def cf_Model_actLine : ZCf := (yX9_actLine, cX9_actLine, 7, none, [], 11, 0, 0, zft_X9, none)
theorem cal_Model_actLine : zCallee cf_Model_actLine 0 := ⟨rfl, zc_yX9_actLine, by decide, by decide, by decide +kernel⟩
def J_Model_actLine_335 (u1 : Int) (μ : ZMem) : Option ZRes := zC (F_Model_wrong u1 μ) (zkV (fun μ31 => some (.inr none, μ31))) zX0
set_option maxRecDepth 100000 in
theorem j_Model_actLine_335 (u1 : Int) (μ : ZMem) : AW cf_Model_actLine S_Model.length S_Model S_Model 335 [(0, zR (some 0)), (1, zI u1)] [] μ 0 0 (J_Model_actLine_335 u1 μ) := by
  unfold J_Model_actLine_335
  refine AW.aload_n (i := 0) (a := 0) (by decide +kernel) rfl (?_ : AW _ _ _ _ 336 _ _ _ _ _ _)
  refine AW.iload_n (i := 1) (a := u1) (by decide +kernel) rfl (?_ : AW _ _ _ _ 337 _ _ _ _ _ _)
  refine AW.callVw (g := cf_Model_wrong) (av := [zI u1]) (b0 := 0) (ci := 9) (idx := 266) (n := 1) (st := []) (by decide +kernel) (fun l hl r hr => c_Model_wrong l hl u1 _ r hr) S_Model_wf rfl cal_Model_wrong rfl (zw4 zm_X9_266 zi_yX9_wrong zs_yX9_wrong zn_X9) rfl rfl ⟨by decide, by decide, by decide, by decide⟩ (Nat.le_of_ble_eq_true rfl) (Or.inl rfl) (fun v μ31 => AW.kV (?_ : AW _ _ _ _ 340 _ _ _ _ _ _) v)
  refine AW.goto (off := 13) (tgt := 353) (by decide +kernel) (by decide) ?_
  exact AW.retv (by decide +kernel) rfl (by decide) (by decide)
def J_Model_actLine_304 (u1 : Int) (u2 : Int) (u3 : Int) (u5 : Int) (u6 : Int) (μ : ZMem) : Option ZRes := if w32 (μ 0 24) = w32 (-1) then (if w32 (μ 0 11) = w32 60 then (J_Model_actLine_335 u1 μ) else (zC (F_Model_canBe u2 u3 u6 u5 μ) (zkI (fun x34 μ33 => if w32 x34 = 0 then (J_Model_actLine_335 u1 μ33) else (zC (F_Model_writesDown u2 u3 u6 u5 μ33) (zkV (fun μ35 => some (.inr none, μ35))) zX0))) zX0)) else (some (.inr none, μ))
set_option maxRecDepth 100000 in
theorem j_Model_actLine_304 (u1 : Int) (u2 : Int) (u3 : Int) (u5 : Int) (u6 : Int) (μ : ZMem) : AW cf_Model_actLine S_Model.length S_Model S_Model 304 [(0, zR (some 0)), (1, zI u1), (2, zI u2), (3, zI u3), (5, zI u5), (6, zI u6)] [] μ 0 0 (J_Model_actLine_304 u1 u2 u3 u5 u6 μ) := by
  unfold J_Model_actLine_304
  refine AW.aload_n (i := 0) (a := 0) (by decide +kernel) rfl (?_ : AW _ _ _ _ 305 _ _ _ _ _ _)
  refine AW.getI (idx := 60) (ci := 9) (k := 24) (r := 0) (by decide +kernel) rfl rfl rfl (?_ : AW _ _ _ _ 308 _ _ _ _ _ _)
  refine AW.iconst (n := -1) (by decide +kernel) (?_ : AW _ _ _ _ 309 _ _ _ _ _ _)
  refine AW.icmp_eq (off := 4) (tgt := 313) (by decide +kernel) (by decide) (fun _ => ?_) (fun _ => ?_)
  · refine AW.aload_n (i := 0) (a := 0) (by decide +kernel) rfl (?_ : AW _ _ _ _ 314 _ _ _ _ _ _)
    refine AW.getI (idx := 116) (ci := 9) (k := 11) (r := 0) (by decide +kernel) rfl rfl rfl (?_ : AW _ _ _ _ 317 _ _ _ _ _ _)
    refine AW.bipush (n := 60) (by decide +kernel) (by decide +kernel) (?_ : AW _ _ _ _ 319 _ _ _ _ _ _)
    refine AW.icmp_eq (off := 16) (tgt := 335) (by decide +kernel) (by decide) (fun _ => ?_) (fun _ => ?_)
    · refine AW.sub (L' := [(0, zR (some 0)), (1, zI u1)]) [0, 1] rfl ?_
      exact j_Model_actLine_335 u1 μ
    · refine AW.aload_n (i := 0) (a := 0) (by decide +kernel) rfl (?_ : AW _ _ _ _ 323 _ _ _ _ _ _)
      refine AW.iload_n (i := 2) (a := u2) (by decide +kernel) rfl (?_ : AW _ _ _ _ 324 _ _ _ _ _ _)
      refine AW.iload_n (i := 3) (a := u3) (by decide +kernel) rfl (?_ : AW _ _ _ _ 325 _ _ _ _ _ _)
      refine AW.iload (i := 6) (a := u6) (by decide +kernel) rfl (?_ : AW _ _ _ _ 327 _ _ _ _ _ _)
      refine AW.iload (i := 5) (a := u5) (by decide +kernel) rfl (?_ : AW _ _ _ _ 329 _ _ _ _ _ _)
      refine AW.callVw (g := cf_Model_canBe) (av := [zI u2, zI u3, zI u6, zI u5]) (b0 := 0) (ci := 9) (idx := 229) (n := 4) (st := []) (by decide +kernel) (fun l hl r hr => c_Model_canBe l hl u2 u3 u6 u5 _ r hr) S_Model_wf rfl cal_Model_canBe rfl (zw4 zm_X9_229 zi_yX9_canBe zs_yX9_canBe zn_X9) rfl rfl ⟨by decide, by decide, by decide, by decide⟩ (Nat.le_of_ble_eq_true rfl) (Or.inl rfl) (fun v μ33 => AW.kI (fun x34 => (?_ : AW _ _ _ _ 332 _ _ _ _ _ _)) v)
      refine AW.if_ne (off := 11) (tgt := 343) (by decide +kernel) (by decide) (fun _ => ?_) (fun _ => ?_)
      · refine AW.sub (L' := [(0, zR (some 0)), (1, zI u1)]) [0, 1] rfl ?_
        exact j_Model_actLine_335 u1 μ33
      · refine AW.aload_n (i := 0) (a := 0) (by decide +kernel) rfl (?_ : AW _ _ _ _ 344 _ _ _ _ _ _)
        refine AW.iload_n (i := 2) (a := u2) (by decide +kernel) rfl (?_ : AW _ _ _ _ 345 _ _ _ _ _ _)
        refine AW.iload_n (i := 3) (a := u3) (by decide +kernel) rfl (?_ : AW _ _ _ _ 346 _ _ _ _ _ _)
        refine AW.iload (i := 6) (a := u6) (by decide +kernel) rfl (?_ : AW _ _ _ _ 348 _ _ _ _ _ _)
        refine AW.iload (i := 5) (a := u5) (by decide +kernel) rfl (?_ : AW _ _ _ _ 350 _ _ _ _ _ _)
        refine AW.callVw (g := cf_Model_writesDown) (av := [zI u2, zI u3, zI u6, zI u5]) (b0 := 0) (ci := 9) (idx := 233) (n := 4) (st := []) (by decide +kernel) (fun l hl r hr => c_Model_writesDown l hl u2 u3 u6 u5 _ r hr) S_Model_wf rfl cal_Model_writesDown rfl (zw4 zm_X9_233 zi_yX9_writesDown zs_yX9_writesDown zn_X9) rfl rfl ⟨by decide, by decide, by decide, by decide⟩ (Nat.le_of_ble_eq_true rfl) (Or.inl rfl) (fun v μ35 => AW.kV (?_ : AW _ _ _ _ 353 _ _ _ _ _ _) v)
        exact AW.retv (by decide +kernel) rfl (by decide) (by decide)
  · exact AW.retv (by decide +kernel) rfl (by decide) (by decide)
def J_Model_actLine_285 (u1 : Int) (u2 : Int) (u3 : Int) (u5 : Int) (y0 : Int) (μ : ZMem) : Option ZRes := if w32 u2 = w32 1 then (zC (F_Model_has 18 μ) (zkI (fun x30 μ29 => if w32 x30 = 0 then (J_Model_actLine_304 u1 u2 u3 u5 y0 μ29) else (J_Model_actLine_304 u1 2 u3 u5 y0 μ29))) zX0) else (J_Model_actLine_304 u1 u2 u3 u5 y0 μ)
set_option maxRecDepth 100000 in
theorem j_Model_actLine_285 (u1 : Int) (u2 : Int) (u3 : Int) (u5 : Int) (y0 : Int) (μ : ZMem) : AW cf_Model_actLine S_Model.length S_Model S_Model 285 [(0, zR (some 0)), (1, zI u1), (2, zI u2), (3, zI u3), (5, zI u5)] [zI y0] μ 0 0 (J_Model_actLine_285 u1 u2 u3 u5 y0 μ) := by
  unfold J_Model_actLine_285
  refine AW.istore' (i := 6) (L' := [(6, zI y0), (0, zR (some 0)), (1, zI u1), (2, zI u2), (3, zI u3), (5, zI u5)]) (by decide +kernel) (by decide) rfl (?_ : AW _ _ _ _ 287 _ _ _ _ _ _)
  refine AW.iload_n (i := 2) (a := u2) (by decide +kernel) rfl (?_ : AW _ _ _ _ 288 _ _ _ _ _ _)
  refine AW.iconst (n := 1) (by decide +kernel) (?_ : AW _ _ _ _ 289 _ _ _ _ _ _)
  refine AW.icmp_ne (off := 15) (tgt := 304) (by decide +kernel) (by decide) (fun _ => ?_) (fun _ => ?_)
  · refine AW.aload_n (i := 0) (a := 0) (by decide +kernel) rfl (?_ : AW _ _ _ _ 293 _ _ _ _ _ _)
    refine AW.ldcws (idx := 337) (tx := "last") (j := 18) (q := 1000018) (by decide +kernel) (by decide +kernel) rfl (?_ : AW _ _ _ _ 296 _ _ _ _ _ _)
    refine AW.callVw (g := cf_Model_has) (av := [zR (some (zSB + 18))]) (b0 := 0) (ci := 9) (idx := 284) (n := 1) (st := []) (by decide +kernel) (fun l hl r hr => c_Model_has l hl 18 _ r hr) S_Model_wf rfl cal_Model_has rfl (zw4 zm_X9_284 zi_yX9_has zs_yX9_has zn_X9) rfl rfl ⟨by decide, by decide, by decide, by decide⟩ (Nat.le_of_ble_eq_true rfl) (Or.inl rfl) (fun v μ29 => AW.kI (fun x30 => (?_ : AW _ _ _ _ 299 _ _ _ _ _ _)) v)
    refine AW.if_eq (off := 5) (tgt := 304) (by decide +kernel) (by decide) (fun _ => ?_) (fun _ => ?_)
    · refine AW.sub (L' := [(0, zR (some 0)), (1, zI u1), (2, zI u2), (3, zI u3), (5, zI u5), (6, zI y0)]) [1, 2, 3, 4, 5, 0] rfl ?_
      exact j_Model_actLine_304 u1 u2 u3 u5 y0 μ29
    · refine AW.iconst (n := 2) (by decide +kernel) (?_ : AW _ _ _ _ 303 _ _ _ _ _ _)
      refine AW.istore_n' (i := 2) (L' := [(2, zI 2), (6, zI y0), (0, zR (some 0)), (1, zI u1), (3, zI u3), (5, zI u5)]) (by decide +kernel) (by decide) rfl (?_ : AW _ _ _ _ 304 _ _ _ _ _ _)
      refine AW.sub (L' := [(0, zR (some 0)), (1, zI u1), (2, zI 2), (3, zI u3), (5, zI u5), (6, zI y0)]) [2, 3, 0, 4, 5, 1] rfl ?_
      exact j_Model_actLine_304 u1 2 u3 u5 y0 μ29
  · refine AW.sub (L' := [(0, zR (some 0)), (1, zI u1), (2, zI u2), (3, zI u3), (5, zI u5), (6, zI y0)]) [1, 2, 3, 4, 5, 0] rfl ?_
    exact j_Model_actLine_304 u1 u2 u3 u5 y0 μ
def J_Model_actLine_237 (u1 : Int) (u2 : Int) (u3 : Int) (u5 : Int) (μ : ZMem) : Option ZRes := zC (F_Model_number 1 9999 μ) (zkI (fun x28 μ27 => J_Model_actLine_285 u1 u2 u3 u5 x28 μ27)) zX0
set_option maxRecDepth 100000 in
theorem j_Model_actLine_237 (u1 : Int) (u2 : Int) (u3 : Int) (u5 : Int) (μ : ZMem) : AW cf_Model_actLine S_Model.length S_Model S_Model 237 [(0, zR (some 0)), (1, zI u1), (2, zI u2), (3, zI u3), (5, zI u5)] [] μ 0 0 (J_Model_actLine_237 u1 u2 u3 u5 μ) := by
  unfold J_Model_actLine_237
  refine AW.aload_n (i := 0) (a := 0) (by decide +kernel) rfl (?_ : AW _ _ _ _ 238 _ _ _ _ _ _)
  refine AW.iconst (n := 1) (by decide +kernel) (?_ : AW _ _ _ _ 239 _ _ _ _ _ _)
  refine AW.sipush (n := 9999) (by decide +kernel) (by decide +kernel) (?_ : AW _ _ _ _ 242 _ _ _ _ _ _)
  refine AW.callVw (g := cf_Model_number) (av := [zI 1, zI 9999]) (b0 := 0) (ci := 9) (idx := 288) (n := 2) (st := []) (by decide +kernel) (fun l hl r hr => c_Model_number l hl 1 9999 _ r hr) S_Model_wf rfl cal_Model_number rfl (zw4 zm_X9_288 zi_yX9_number zs_yX9_number zn_X9) rfl rfl ⟨by decide, by decide, by decide, by decide⟩ (Nat.le_of_ble_eq_true rfl) (Or.inl rfl) (fun v μ27 => AW.kI (fun x28 => (?_ : AW _ _ _ _ 245 _ _ _ _ _ _)) v)
  refine AW.goto (off := 40) (tgt := 285) (by decide +kernel) (by decide) ?_
  exact j_Model_actLine_285 u1 u2 u3 u5 x28 μ27
def J_Model_actLine_258 (u1 : Int) (u2 : Int) (u3 : Int) (u5 : Int) (μ : ZMem) : Option ZRes := zC (F_Model_number 0 9999 μ) (zkI (fun x38 μ37 => J_Model_actLine_285 u1 u2 u3 u5 x38 μ37)) zX0
set_option maxRecDepth 100000 in
theorem j_Model_actLine_258 (u1 : Int) (u2 : Int) (u3 : Int) (u5 : Int) (μ : ZMem) : AW cf_Model_actLine S_Model.length S_Model S_Model 258 [(0, zR (some 0)), (1, zI u1), (2, zI u2), (3, zI u3), (5, zI u5)] [] μ 0 0 (J_Model_actLine_258 u1 u2 u3 u5 μ) := by
  unfold J_Model_actLine_258
  refine AW.aload_n (i := 0) (a := 0) (by decide +kernel) rfl (?_ : AW _ _ _ _ 259 _ _ _ _ _ _)
  refine AW.iconst (n := 0) (by decide +kernel) (?_ : AW _ _ _ _ 260 _ _ _ _ _ _)
  refine AW.sipush (n := 9999) (by decide +kernel) (by decide +kernel) (?_ : AW _ _ _ _ 263 _ _ _ _ _ _)
  refine AW.callVw (g := cf_Model_number) (av := [zI 0, zI 9999]) (b0 := 0) (ci := 9) (idx := 288) (n := 2) (st := []) (by decide +kernel) (fun l hl r hr => c_Model_number l hl 0 9999 _ r hr) S_Model_wf rfl cal_Model_number rfl (zw4 zm_X9_288 zi_yX9_number zs_yX9_number zn_X9) rfl rfl ⟨by decide, by decide, by decide, by decide⟩ (Nat.le_of_ble_eq_true rfl) (Or.inl rfl) (fun v μ37 => AW.kI (fun x38 => (?_ : AW _ _ _ _ 266 _ _ _ _ _ _)) v)
  refine AW.goto (off := 19) (tgt := 285) (by decide +kernel) (by decide) ?_
  exact j_Model_actLine_285 u1 u2 u3 u5 x38 μ37
def J_Model_actLine_227 (u1 : Int) (u2 : Int) (u3 : Int) (u5 : Int) (μ : ZMem) : Option ZRes := if w32 u2 = 0 then (J_Model_actLine_237 u1 u2 u3 u5 μ) else (if w32 u2 = w32 7 then (J_Model_actLine_237 u1 u2 u3 u5 μ) else (if w32 u2 = w32 1 then (J_Model_actLine_258 u1 u2 u3 u5 μ) else (if w32 u2 = w32 3 then (J_Model_actLine_258 u1 u2 u3 u5 μ) else (if w32 u2 = w32 4 then (zC (F_Model_number 1 60 μ) (zkI (fun x40 μ39 => J_Model_actLine_285 u1 u2 u3 u5 x40 μ39)) zX0) else (J_Model_actLine_285 u1 u2 u3 u5 0 μ)))))
set_option maxRecDepth 100000 in
theorem j_Model_actLine_227 (u1 : Int) (u2 : Int) (u3 : Int) (u5 : Int) (μ : ZMem) : AW cf_Model_actLine S_Model.length S_Model S_Model 227 [(0, zR (some 0)), (1, zI u1), (2, zI u2), (3, zI u3), (5, zI u5)] [] μ 0 0 (J_Model_actLine_227 u1 u2 u3 u5 μ) := by
  unfold J_Model_actLine_227
  refine AW.iload_n (i := 2) (a := u2) (by decide +kernel) rfl (?_ : AW _ _ _ _ 228 _ _ _ _ _ _)
  refine AW.if_eq (off := 9) (tgt := 237) (by decide +kernel) (by decide) (fun _ => ?_) (fun _ => ?_)
  · exact j_Model_actLine_237 u1 u2 u3 u5 μ
  · refine AW.iload_n (i := 2) (a := u2) (by decide +kernel) rfl (?_ : AW _ _ _ _ 232 _ _ _ _ _ _)
    refine AW.bipush (n := 7) (by decide +kernel) (by decide +kernel) (?_ : AW _ _ _ _ 234 _ _ _ _ _ _)
    refine AW.icmp_ne (off := 14) (tgt := 248) (by decide +kernel) (by decide) (fun _ => ?_) (fun _ => ?_)
    · exact j_Model_actLine_237 u1 u2 u3 u5 μ
    · refine AW.iload_n (i := 2) (a := u2) (by decide +kernel) rfl (?_ : AW _ _ _ _ 249 _ _ _ _ _ _)
      refine AW.iconst (n := 1) (by decide +kernel) (?_ : AW _ _ _ _ 250 _ _ _ _ _ _)
      refine AW.icmp_eq (off := 8) (tgt := 258) (by decide +kernel) (by decide) (fun _ => ?_) (fun _ => ?_)
      · exact j_Model_actLine_258 u1 u2 u3 u5 μ
      · refine AW.iload_n (i := 2) (a := u2) (by decide +kernel) rfl (?_ : AW _ _ _ _ 254 _ _ _ _ _ _)
        refine AW.iconst (n := 3) (by decide +kernel) (?_ : AW _ _ _ _ 255 _ _ _ _ _ _)
        refine AW.icmp_ne (off := 14) (tgt := 269) (by decide +kernel) (by decide) (fun _ => ?_) (fun _ => ?_)
        · exact j_Model_actLine_258 u1 u2 u3 u5 μ
        · refine AW.iload_n (i := 2) (a := u2) (by decide +kernel) rfl (?_ : AW _ _ _ _ 270 _ _ _ _ _ _)
          refine AW.iconst (n := 4) (by decide +kernel) (?_ : AW _ _ _ _ 271 _ _ _ _ _ _)
          refine AW.icmp_ne (off := 13) (tgt := 284) (by decide +kernel) (by decide) (fun _ => ?_) (fun _ => ?_)
          · refine AW.aload_n (i := 0) (a := 0) (by decide +kernel) rfl (?_ : AW _ _ _ _ 275 _ _ _ _ _ _)
            refine AW.iconst (n := 1) (by decide +kernel) (?_ : AW _ _ _ _ 276 _ _ _ _ _ _)
            refine AW.bipush (n := 60) (by decide +kernel) (by decide +kernel) (?_ : AW _ _ _ _ 278 _ _ _ _ _ _)
            refine AW.callVw (g := cf_Model_number) (av := [zI 1, zI 60]) (b0 := 0) (ci := 9) (idx := 288) (n := 2) (st := []) (by decide +kernel) (fun l hl r hr => c_Model_number l hl 1 60 _ r hr) S_Model_wf rfl cal_Model_number rfl (zw4 zm_X9_288 zi_yX9_number zs_yX9_number zn_X9) rfl rfl ⟨by decide, by decide, by decide, by decide⟩ (Nat.le_of_ble_eq_true rfl) (Or.inl rfl) (fun v μ39 => AW.kI (fun x40 => (?_ : AW _ _ _ _ 281 _ _ _ _ _ _)) v)
            refine AW.goto (off := 4) (tgt := 285) (by decide +kernel) (by decide) ?_
            exact j_Model_actLine_285 u1 u2 u3 u5 x40 μ39
          · refine AW.iconst (n := 0) (by decide +kernel) (?_ : AW _ _ _ _ 285 _ _ _ _ _ _)
            exact j_Model_actLine_285 u1 u2 u3 u5 0 μ
def J_Model_actLine_199 (u1 : Int) (u2 : Int) (u3 : Int) (u4 : Int) (y0 : Int) (μ : ZMem) : Option ZRes := if w32 u2 = w32 7 then (if w32 (μ 0 24) = w32 (-1) then (if w32 y0 = w32 u3 then (zC (F_Model_wrong u4 μ) (zkV (fun μ25 => J_Model_actLine_227 u1 u2 u3 y0 μ25)) zX0) else (J_Model_actLine_227 u1 u2 u3 y0 μ)) else (J_Model_actLine_227 u1 u2 u3 y0 μ)) else (J_Model_actLine_227 u1 u2 u3 y0 μ)
set_option maxRecDepth 100000 in
theorem j_Model_actLine_199 (u1 : Int) (u2 : Int) (u3 : Int) (u4 : Int) (y0 : Int) (μ : ZMem) : AW cf_Model_actLine S_Model.length S_Model S_Model 199 [(0, zR (some 0)), (1, zI u1), (2, zI u2), (3, zI u3), (4, zI u4)] [zI y0] μ 0 0 (J_Model_actLine_199 u1 u2 u3 u4 y0 μ) := by
  unfold J_Model_actLine_199
  refine AW.istore' (i := 5) (L' := [(5, zI y0), (0, zR (some 0)), (1, zI u1), (2, zI u2), (3, zI u3), (4, zI u4)]) (by decide +kernel) (by decide) rfl (?_ : AW _ _ _ _ 201 _ _ _ _ _ _)
  refine AW.iload_n (i := 2) (a := u2) (by decide +kernel) rfl (?_ : AW _ _ _ _ 202 _ _ _ _ _ _)
  refine AW.bipush (n := 7) (by decide +kernel) (by decide +kernel) (?_ : AW _ _ _ _ 204 _ _ _ _ _ _)
  refine AW.icmp_ne (off := 23) (tgt := 227) (by decide +kernel) (by decide) (fun _ => ?_) (fun _ => ?_)
  · refine AW.aload_n (i := 0) (a := 0) (by decide +kernel) rfl (?_ : AW _ _ _ _ 208 _ _ _ _ _ _)
    refine AW.getI (idx := 60) (ci := 9) (k := 24) (r := 0) (by decide +kernel) rfl rfl rfl (?_ : AW _ _ _ _ 211 _ _ _ _ _ _)
    refine AW.iconst (n := -1) (by decide +kernel) (?_ : AW _ _ _ _ 212 _ _ _ _ _ _)
    refine AW.icmp_ne (off := 15) (tgt := 227) (by decide +kernel) (by decide) (fun _ => ?_) (fun _ => ?_)
    · refine AW.iload (i := 5) (a := y0) (by decide +kernel) rfl (?_ : AW _ _ _ _ 217 _ _ _ _ _ _)
      refine AW.iload_n (i := 3) (a := u3) (by decide +kernel) rfl (?_ : AW _ _ _ _ 218 _ _ _ _ _ _)
      refine AW.icmp_ne (off := 9) (tgt := 227) (by decide +kernel) (by decide) (fun _ => ?_) (fun _ => ?_)
      · refine AW.aload_n (i := 0) (a := 0) (by decide +kernel) rfl (?_ : AW _ _ _ _ 222 _ _ _ _ _ _)
        refine AW.iload (i := 4) (a := u4) (by decide +kernel) rfl (?_ : AW _ _ _ _ 224 _ _ _ _ _ _)
        refine AW.callVw (g := cf_Model_wrong) (av := [zI u4]) (b0 := 0) (ci := 9) (idx := 266) (n := 1) (st := []) (by decide +kernel) (fun l hl r hr => c_Model_wrong l hl u4 _ r hr) S_Model_wf rfl cal_Model_wrong rfl (zw4 zm_X9_266 zi_yX9_wrong zs_yX9_wrong zn_X9) rfl rfl ⟨by decide, by decide, by decide, by decide⟩ (Nat.le_of_ble_eq_true rfl) (Or.inl rfl) (fun v μ25 => AW.kV (?_ : AW _ _ _ _ 227 _ _ _ _ _ _) v)
        refine AW.sub (L' := [(0, zR (some 0)), (1, zI u1), (2, zI u2), (3, zI u3), (5, zI y0)]) [1, 2, 3, 4, 0] rfl ?_
        exact j_Model_actLine_227 u1 u2 u3 y0 μ25
      · refine AW.sub (L' := [(0, zR (some 0)), (1, zI u1), (2, zI u2), (3, zI u3), (5, zI y0)]) [1, 2, 3, 4, 0] rfl ?_
        exact j_Model_actLine_227 u1 u2 u3 y0 μ
    · refine AW.sub (L' := [(0, zR (some 0)), (1, zI u1), (2, zI u2), (3, zI u3), (5, zI y0)]) [1, 2, 3, 4, 0] rfl ?_
      exact j_Model_actLine_227 u1 u2 u3 y0 μ
  · refine AW.sub (L' := [(0, zR (some 0)), (1, zI u1), (2, zI u2), (3, zI u3), (5, zI y0)]) [1, 2, 3, 4, 0] rfl ?_
    exact j_Model_actLine_227 u1 u2 u3 y0 μ
def J_Model_actLine_171 (u1 : Int) (u2 : Int) (y0 : Int) (μ : ZMem) : Option ZRes := zC (F_Model_here  μ) (zkI (fun x22 μ21 => if w32 u2 = w32 7 then (zC (F_Model_number 0 ((μ21 0 5) - 1) μ21) (zkI (fun x24 μ23 => J_Model_actLine_199 u1 u2 y0 x22 x24 μ23)) zX0) else (J_Model_actLine_199 u1 u2 y0 x22 (-1) μ21))) zX0
set_option maxRecDepth 100000 in
theorem j_Model_actLine_171 (u1 : Int) (u2 : Int) (y0 : Int) (μ : ZMem) : AW cf_Model_actLine S_Model.length S_Model S_Model 171 [(0, zR (some 0)), (1, zI u1), (2, zI u2)] [zI y0] μ 0 0 (J_Model_actLine_171 u1 u2 y0 μ) := by
  unfold J_Model_actLine_171
  refine AW.istore_n' (i := 3) (L' := [(3, zI y0), (0, zR (some 0)), (1, zI u1), (2, zI u2)]) (by decide +kernel) (by decide) rfl (?_ : AW _ _ _ _ 172 _ _ _ _ _ _)
  refine AW.aload_n (i := 0) (a := 0) (by decide +kernel) rfl (?_ : AW _ _ _ _ 173 _ _ _ _ _ _)
  refine AW.callVw (g := cf_Model_here) (av := []) (b0 := 0) (ci := 9) (idx := 245) (n := 0) (st := []) (by decide +kernel) (fun l hl r hr => c_Model_here l hl  _ r hr) S_Model_wf rfl cal_Model_here rfl (zw4 zm_X9_245 zi_yX9_here zs_yX9_here zn_X9) rfl rfl ⟨by decide, by decide, by decide, by decide⟩ (Nat.le_of_ble_eq_true rfl) (Or.inl rfl) (fun v μ21 => AW.kI (fun x22 => (?_ : AW _ _ _ _ 176 _ _ _ _ _ _)) v)
  refine AW.istore' (i := 4) (L' := [(4, zI x22), (3, zI y0), (0, zR (some 0)), (1, zI u1), (2, zI u2)]) (by decide +kernel) (by decide) rfl (?_ : AW _ _ _ _ 178 _ _ _ _ _ _)
  refine AW.iload_n (i := 2) (a := u2) (by decide +kernel) rfl (?_ : AW _ _ _ _ 179 _ _ _ _ _ _)
  refine AW.bipush (n := 7) (by decide +kernel) (by decide +kernel) (?_ : AW _ _ _ _ 181 _ _ _ _ _ _)
  refine AW.icmp_ne (off := 17) (tgt := 198) (by decide +kernel) (by decide) (fun _ => ?_) (fun _ => ?_)
  · refine AW.aload_n (i := 0) (a := 0) (by decide +kernel) rfl (?_ : AW _ _ _ _ 185 _ _ _ _ _ _)
    refine AW.iconst (n := 0) (by decide +kernel) (?_ : AW _ _ _ _ 186 _ _ _ _ _ _)
    refine AW.aload_n (i := 0) (a := 0) (by decide +kernel) rfl (?_ : AW _ _ _ _ 187 _ _ _ _ _ _)
    refine AW.getI (idx := 96) (ci := 9) (k := 5) (r := 0) (by decide +kernel) rfl rfl rfl (?_ : AW _ _ _ _ 190 _ _ _ _ _ _)
    refine AW.iconst (n := 1) (by decide +kernel) (?_ : AW _ _ _ _ 191 _ _ _ _ _ _)
    refine AW.isub (by decide +kernel) (?_ : AW _ _ _ _ 192 _ _ _ _ _ _)
    refine AW.callVw (g := cf_Model_number) (av := [zI 0, zI ((μ21 0 5) - 1)]) (b0 := 0) (ci := 9) (idx := 288) (n := 2) (st := []) (by decide +kernel) (fun l hl r hr => c_Model_number l hl 0 ((μ21 0 5) - 1) _ r hr) S_Model_wf rfl cal_Model_number rfl (zw4 zm_X9_288 zi_yX9_number zs_yX9_number zn_X9) rfl rfl ⟨by decide, by decide, by decide, by decide⟩ (Nat.le_of_ble_eq_true rfl) (Or.inl rfl) (fun v μ23 => AW.kI (fun x24 => (?_ : AW _ _ _ _ 195 _ _ _ _ _ _)) v)
    refine AW.goto (off := 4) (tgt := 199) (by decide +kernel) (by decide) ?_
    refine AW.sub (L' := [(0, zR (some 0)), (1, zI u1), (2, zI u2), (3, zI y0), (4, zI x22)]) [2, 3, 4, 1, 0] rfl ?_
    exact j_Model_actLine_199 u1 u2 y0 x22 x24 μ23
  · refine AW.iconst (n := -1) (by decide +kernel) (?_ : AW _ _ _ _ 199 _ _ _ _ _ _)
    refine AW.sub (L' := [(0, zR (some 0)), (1, zI u1), (2, zI u2), (3, zI y0), (4, zI x22)]) [2, 3, 4, 1, 0] rfl ?_
    exact j_Model_actLine_199 u1 u2 y0 x22 (-1) μ21
def J_Model_actLine_131 (u1 : Int) (u2 : Int) (μ : ZMem) : Option ZRes := zC (F_Model_number 0 ((μ 0 6) - 1) μ) (zkI (fun x20 μ19 => J_Model_actLine_171 u1 u2 x20 μ19)) zX0
set_option maxRecDepth 100000 in
theorem j_Model_actLine_131 (u1 : Int) (u2 : Int) (μ : ZMem) : AW cf_Model_actLine S_Model.length S_Model S_Model 131 [(0, zR (some 0)), (1, zI u1), (2, zI u2)] [] μ 0 0 (J_Model_actLine_131 u1 u2 μ) := by
  unfold J_Model_actLine_131
  refine AW.aload_n (i := 0) (a := 0) (by decide +kernel) rfl (?_ : AW _ _ _ _ 132 _ _ _ _ _ _)
  refine AW.iconst (n := 0) (by decide +kernel) (?_ : AW _ _ _ _ 133 _ _ _ _ _ _)
  refine AW.aload_n (i := 0) (a := 0) (by decide +kernel) rfl (?_ : AW _ _ _ _ 134 _ _ _ _ _ _)
  refine AW.getI (idx := 103) (ci := 9) (k := 6) (r := 0) (by decide +kernel) rfl rfl rfl (?_ : AW _ _ _ _ 137 _ _ _ _ _ _)
  refine AW.iconst (n := 1) (by decide +kernel) (?_ : AW _ _ _ _ 138 _ _ _ _ _ _)
  refine AW.isub (by decide +kernel) (?_ : AW _ _ _ _ 139 _ _ _ _ _ _)
  refine AW.callVw (g := cf_Model_number) (av := [zI 0, zI ((μ 0 6) - 1)]) (b0 := 0) (ci := 9) (idx := 288) (n := 2) (st := []) (by decide +kernel) (fun l hl r hr => c_Model_number l hl 0 ((μ 0 6) - 1) _ r hr) S_Model_wf rfl cal_Model_number rfl (zw4 zm_X9_288 zi_yX9_number zs_yX9_number zn_X9) rfl rfl ⟨by decide, by decide, by decide, by decide⟩ (Nat.le_of_ble_eq_true rfl) (Or.inl rfl) (fun v μ19 => AW.kI (fun x20 => (?_ : AW _ _ _ _ 142 _ _ _ _ _ _)) v)
  refine AW.goto (off := 29) (tgt := 171) (by decide +kernel) (by decide) ?_
  exact j_Model_actLine_171 u1 u2 x20 μ19
def J_Model_actLine_156 (u1 : Int) (u2 : Int) (μ : ZMem) : Option ZRes := zC (F_Model_number 0 ((μ 0 5) - 1) μ) (zkI (fun x42 μ41 => J_Model_actLine_171 u1 u2 x42 μ41)) zX0
set_option maxRecDepth 100000 in
theorem j_Model_actLine_156 (u1 : Int) (u2 : Int) (μ : ZMem) : AW cf_Model_actLine S_Model.length S_Model S_Model 156 [(0, zR (some 0)), (1, zI u1), (2, zI u2)] [] μ 0 0 (J_Model_actLine_156 u1 u2 μ) := by
  unfold J_Model_actLine_156
  refine AW.aload_n (i := 0) (a := 0) (by decide +kernel) rfl (?_ : AW _ _ _ _ 157 _ _ _ _ _ _)
  refine AW.iconst (n := 0) (by decide +kernel) (?_ : AW _ _ _ _ 158 _ _ _ _ _ _)
  refine AW.aload_n (i := 0) (a := 0) (by decide +kernel) rfl (?_ : AW _ _ _ _ 159 _ _ _ _ _ _)
  refine AW.getI (idx := 96) (ci := 9) (k := 5) (r := 0) (by decide +kernel) rfl rfl rfl (?_ : AW _ _ _ _ 162 _ _ _ _ _ _)
  refine AW.iconst (n := 1) (by decide +kernel) (?_ : AW _ _ _ _ 163 _ _ _ _ _ _)
  refine AW.isub (by decide +kernel) (?_ : AW _ _ _ _ 164 _ _ _ _ _ _)
  refine AW.callVw (g := cf_Model_number) (av := [zI 0, zI ((μ 0 5) - 1)]) (b0 := 0) (ci := 9) (idx := 288) (n := 2) (st := []) (by decide +kernel) (fun l hl r hr => c_Model_number l hl 0 ((μ 0 5) - 1) _ r hr) S_Model_wf rfl cal_Model_number rfl (zw4 zm_X9_288 zi_yX9_number zs_yX9_number zn_X9) rfl rfl ⟨by decide, by decide, by decide, by decide⟩ (Nat.le_of_ble_eq_true rfl) (Or.inl rfl) (fun v μ41 => AW.kI (fun x42 => (?_ : AW _ _ _ _ 167 _ _ _ _ _ _)) v)
  refine AW.goto (off := 4) (tgt := 171) (by decide +kernel) (by decide) ?_
  exact j_Model_actLine_171 u1 u2 x42 μ41
def J_Model_actLine_117 (u1 : Int) (u2 : Int) (μ : ZMem) : Option ZRes := if w32 u2 = 0 then (J_Model_actLine_131 u1 u2 μ) else (if w32 u2 = w32 1 then (J_Model_actLine_131 u1 u2 μ) else (if w32 u2 = w32 3 then (J_Model_actLine_131 u1 u2 μ) else (if w32 u2 = w32 5 then (J_Model_actLine_156 u1 u2 μ) else (if w32 u2 = w32 7 then (J_Model_actLine_156 u1 u2 μ) else (J_Model_actLine_171 u1 u2 (-1) μ)))))
set_option maxRecDepth 100000 in
theorem j_Model_actLine_117 (u1 : Int) (u2 : Int) (μ : ZMem) : AW cf_Model_actLine S_Model.length S_Model S_Model 117 [(0, zR (some 0)), (1, zI u1), (2, zI u2)] [] μ 0 0 (J_Model_actLine_117 u1 u2 μ) := by
  unfold J_Model_actLine_117
  refine AW.iload_n (i := 2) (a := u2) (by decide +kernel) rfl (?_ : AW _ _ _ _ 118 _ _ _ _ _ _)
  refine AW.if_eq (off := 13) (tgt := 131) (by decide +kernel) (by decide) (fun _ => ?_) (fun _ => ?_)
  · exact j_Model_actLine_131 u1 u2 μ
  · refine AW.iload_n (i := 2) (a := u2) (by decide +kernel) rfl (?_ : AW _ _ _ _ 122 _ _ _ _ _ _)
    refine AW.iconst (n := 1) (by decide +kernel) (?_ : AW _ _ _ _ 123 _ _ _ _ _ _)
    refine AW.icmp_eq (off := 8) (tgt := 131) (by decide +kernel) (by decide) (fun _ => ?_) (fun _ => ?_)
    · exact j_Model_actLine_131 u1 u2 μ
    · refine AW.iload_n (i := 2) (a := u2) (by decide +kernel) rfl (?_ : AW _ _ _ _ 127 _ _ _ _ _ _)
      refine AW.iconst (n := 3) (by decide +kernel) (?_ : AW _ _ _ _ 128 _ _ _ _ _ _)
      refine AW.icmp_ne (off := 17) (tgt := 145) (by decide +kernel) (by decide) (fun _ => ?_) (fun _ => ?_)
      · exact j_Model_actLine_131 u1 u2 μ
      · refine AW.iload_n (i := 2) (a := u2) (by decide +kernel) rfl (?_ : AW _ _ _ _ 146 _ _ _ _ _ _)
        refine AW.iconst (n := 5) (by decide +kernel) (?_ : AW _ _ _ _ 147 _ _ _ _ _ _)
        refine AW.icmp_eq (off := 9) (tgt := 156) (by decide +kernel) (by decide) (fun _ => ?_) (fun _ => ?_)
        · exact j_Model_actLine_156 u1 u2 μ
        · refine AW.iload_n (i := 2) (a := u2) (by decide +kernel) rfl (?_ : AW _ _ _ _ 151 _ _ _ _ _ _)
          refine AW.bipush (n := 7) (by decide +kernel) (by decide +kernel) (?_ : AW _ _ _ _ 153 _ _ _ _ _ _)
          refine AW.icmp_ne (off := 17) (tgt := 170) (by decide +kernel) (by decide) (fun _ => ?_) (fun _ => ?_)
          · exact j_Model_actLine_156 u1 u2 μ
          · refine AW.iconst (n := -1) (by decide +kernel) (?_ : AW _ _ _ _ 171 _ _ _ _ _ _)
            exact j_Model_actLine_171 u1 u2 (-1) μ
def J_Model_actLine_106 (u1 : Int) (y0 : Int) (μ : ZMem) : Option ZRes := if w32 y0 = w32 (-1) then (zC (F_Model_wrong u1 μ) (zkV (fun μ17 => J_Model_actLine_117 u1 y0 μ17)) zX0) else (J_Model_actLine_117 u1 y0 μ)
set_option maxRecDepth 100000 in
theorem j_Model_actLine_106 (u1 : Int) (y0 : Int) (μ : ZMem) : AW cf_Model_actLine S_Model.length S_Model S_Model 106 [(0, zR (some 0)), (1, zI u1)] [zI y0] μ 0 0 (J_Model_actLine_106 u1 y0 μ) := by
  unfold J_Model_actLine_106
  refine AW.istore_n' (i := 2) (L' := [(2, zI y0), (0, zR (some 0)), (1, zI u1)]) (by decide +kernel) (by decide) rfl (?_ : AW _ _ _ _ 107 _ _ _ _ _ _)
  refine AW.iload_n (i := 2) (a := y0) (by decide +kernel) rfl (?_ : AW _ _ _ _ 108 _ _ _ _ _ _)
  refine AW.iconst (n := -1) (by decide +kernel) (?_ : AW _ _ _ _ 109 _ _ _ _ _ _)
  refine AW.icmp_ne (off := 8) (tgt := 117) (by decide +kernel) (by decide) (fun _ => ?_) (fun _ => ?_)
  · refine AW.aload_n (i := 0) (a := 0) (by decide +kernel) rfl (?_ : AW _ _ _ _ 113 _ _ _ _ _ _)
    refine AW.iload_n (i := 1) (a := u1) (by decide +kernel) rfl (?_ : AW _ _ _ _ 114 _ _ _ _ _ _)
    refine AW.callVw (g := cf_Model_wrong) (av := [zI u1]) (b0 := 0) (ci := 9) (idx := 266) (n := 1) (st := []) (by decide +kernel) (fun l hl r hr => c_Model_wrong l hl u1 _ r hr) S_Model_wf rfl cal_Model_wrong rfl (zw4 zm_X9_266 zi_yX9_wrong zs_yX9_wrong zn_X9) rfl rfl ⟨by decide, by decide, by decide, by decide⟩ (Nat.le_of_ble_eq_true rfl) (Or.inl rfl) (fun v μ17 => AW.kV (?_ : AW _ _ _ _ 117 _ _ _ _ _ _) v)
    refine AW.sub (L' := [(0, zR (some 0)), (1, zI u1), (2, zI y0)]) [1, 2, 0] rfl ?_
    exact j_Model_actLine_117 u1 y0 μ17
  · refine AW.sub (L' := [(0, zR (some 0)), (1, zI u1), (2, zI y0)]) [1, 2, 0] rfl ?_
    exact j_Model_actLine_117 u1 y0 μ
def F_Model_actLine (μ : ZMem) : Option ZRes := zC (F_Model_here  μ) (zkI (fun x2 μ1 => zC (F_Model_has 11 μ1) (zkI (fun x4 μ3 => if w32 x4 = 0 then (zC (F_Model_has 12 μ3) (zkI (fun x6 μ5 => if w32 x6 = 0 then (zC (F_Model_has 13 μ5) (zkI (fun x8 μ7 => if w32 x8 = 0 then (zC (F_Model_has 14 μ7) (zkI (fun x10 μ9 => if w32 x10 = 0 then (zC (F_Model_has 15 μ9) (zkI (fun x12 μ11 => if w32 x12 = 0 then (zC (F_Model_has 16 μ11) (zkI (fun x14 μ13 => if w32 x14 = 0 then (zC (F_Model_has 17 μ13) (zkI (fun x16 μ15 => if w32 x16 = 0 then (J_Model_actLine_106 x2 (-1) μ15) else (J_Model_actLine_106 x2 6 μ15))) zX0) else (J_Model_actLine_106 x2 7 μ13))) zX0) else (J_Model_actLine_106 x2 5 μ11))) zX0) else (J_Model_actLine_106 x2 4 μ9))) zX0) else (J_Model_actLine_106 x2 3 μ7))) zX0) else (J_Model_actLine_106 x2 1 μ5))) zX0) else (J_Model_actLine_106 x2 0 μ3))) zX0)) zX0
set_option maxRecDepth 100000 in
theorem w_Model_actLine (μ : ZMem) : AW cf_Model_actLine S_Model.length S_Model S_Model 0 [(0, zR (some 0))] [] μ 0 0 (F_Model_actLine μ) := by
  unfold F_Model_actLine
  refine AW.aload_n (i := 0) (a := 0) (by decide +kernel) rfl (?_ : AW _ _ _ _ 1 _ _ _ _ _ _)
  refine AW.callVw (g := cf_Model_here) (av := []) (b0 := 0) (ci := 9) (idx := 245) (n := 0) (st := []) (by decide +kernel) (fun l hl r hr => c_Model_here l hl  _ r hr) S_Model_wf rfl cal_Model_here rfl (zw4 zm_X9_245 zi_yX9_here zs_yX9_here zn_X9) rfl rfl ⟨by decide, by decide, by decide, by decide⟩ (Nat.le_of_ble_eq_true rfl) (Or.inl rfl) (fun v μ1 => AW.kI (fun x2 => (?_ : AW _ _ _ _ 4 _ _ _ _ _ _)) v)
  refine AW.istore_n' (i := 1) (L' := [(1, zI x2), (0, zR (some 0))]) (by decide +kernel) (by decide) rfl (?_ : AW _ _ _ _ 5 _ _ _ _ _ _)
  refine AW.aload_n (i := 0) (a := 0) (by decide +kernel) rfl (?_ : AW _ _ _ _ 6 _ _ _ _ _ _)
  refine AW.ldcws (idx := 324) (tx := "call") (j := 11) (q := 1000011) (by decide +kernel) (by decide +kernel) rfl (?_ : AW _ _ _ _ 9 _ _ _ _ _ _)
  refine AW.callVw (g := cf_Model_has) (av := [zR (some (zSB + 11))]) (b0 := 0) (ci := 9) (idx := 284) (n := 1) (st := []) (by decide +kernel) (fun l hl r hr => c_Model_has l hl 11 _ r hr) S_Model_wf rfl cal_Model_has rfl (zw4 zm_X9_284 zi_yX9_has zs_yX9_has zn_X9) rfl rfl ⟨by decide, by decide, by decide, by decide⟩ (Nat.le_of_ble_eq_true rfl) (Or.inl rfl) (fun v μ3 => AW.kI (fun x4 => (?_ : AW _ _ _ _ 12 _ _ _ _ _ _)) v)
  refine AW.if_eq (off := 7) (tgt := 19) (by decide +kernel) (by decide) (fun _ => ?_) (fun _ => ?_)
  · refine AW.aload_n (i := 0) (a := 0) (by decide +kernel) rfl (?_ : AW _ _ _ _ 20 _ _ _ _ _ _)
    refine AW.ldcws (idx := 326) (tx := "sell") (j := 12) (q := 1000012) (by decide +kernel) (by decide +kernel) rfl (?_ : AW _ _ _ _ 23 _ _ _ _ _ _)
    refine AW.callVw (g := cf_Model_has) (av := [zR (some (zSB + 12))]) (b0 := 0) (ci := 9) (idx := 284) (n := 1) (st := []) (by decide +kernel) (fun l hl r hr => c_Model_has l hl 12 _ r hr) S_Model_wf rfl cal_Model_has rfl (zw4 zm_X9_284 zi_yX9_has zs_yX9_has zn_X9) rfl rfl ⟨by decide, by decide, by decide, by decide⟩ (Nat.le_of_ble_eq_true rfl) (Or.inl rfl) (fun v μ5 => AW.kI (fun x6 => (?_ : AW _ _ _ _ 26 _ _ _ _ _ _)) v)
    refine AW.if_eq (off := 7) (tgt := 33) (by decide +kernel) (by decide) (fun _ => ?_) (fun _ => ?_)
    · refine AW.aload_n (i := 0) (a := 0) (by decide +kernel) rfl (?_ : AW _ _ _ _ 34 _ _ _ _ _ _)
      refine AW.ldcws (idx := 328) (tx := "mark") (j := 13) (q := 1000013) (by decide +kernel) (by decide +kernel) rfl (?_ : AW _ _ _ _ 37 _ _ _ _ _ _)
      refine AW.callVw (g := cf_Model_has) (av := [zR (some (zSB + 13))]) (b0 := 0) (ci := 9) (idx := 284) (n := 1) (st := []) (by decide +kernel) (fun l hl r hr => c_Model_has l hl 13 _ r hr) S_Model_wf rfl cal_Model_has rfl (zw4 zm_X9_284 zi_yX9_has zs_yX9_has zn_X9) rfl rfl ⟨by decide, by decide, by decide, by decide⟩ (Nat.le_of_ble_eq_true rfl) (Or.inl rfl) (fun v μ7 => AW.kI (fun x8 => (?_ : AW _ _ _ _ 40 _ _ _ _ _ _)) v)
      refine AW.if_eq (off := 7) (tgt := 47) (by decide +kernel) (by decide) (fun _ => ?_) (fun _ => ?_)
      · refine AW.aload_n (i := 0) (a := 0) (by decide +kernel) rfl (?_ : AW _ _ _ _ 48 _ _ _ _ _ _)
        refine AW.ldcws (idx := 330) (tx := "wait") (j := 14) (q := 1000014) (by decide +kernel) (by decide +kernel) rfl (?_ : AW _ _ _ _ 51 _ _ _ _ _ _)
        refine AW.callVw (g := cf_Model_has) (av := [zR (some (zSB + 14))]) (b0 := 0) (ci := 9) (idx := 284) (n := 1) (st := []) (by decide +kernel) (fun l hl r hr => c_Model_has l hl 14 _ r hr) S_Model_wf rfl cal_Model_has rfl (zw4 zm_X9_284 zi_yX9_has zs_yX9_has zn_X9) rfl rfl ⟨by decide, by decide, by decide, by decide⟩ (Nat.le_of_ble_eq_true rfl) (Or.inl rfl) (fun v μ9 => AW.kI (fun x10 => (?_ : AW _ _ _ _ 54 _ _ _ _ _ _)) v)
        refine AW.if_eq (off := 7) (tgt := 61) (by decide +kernel) (by decide) (fun _ => ?_) (fun _ => ?_)
        · refine AW.aload_n (i := 0) (a := 0) (by decide +kernel) rfl (?_ : AW _ _ _ _ 62 _ _ _ _ _ _)
          refine AW.ldcws (idx := 332) (tx := "fail") (j := 15) (q := 1000015) (by decide +kernel) (by decide +kernel) rfl (?_ : AW _ _ _ _ 65 _ _ _ _ _ _)
          refine AW.callVw (g := cf_Model_has) (av := [zR (some (zSB + 15))]) (b0 := 0) (ci := 9) (idx := 284) (n := 1) (st := []) (by decide +kernel) (fun l hl r hr => c_Model_has l hl 15 _ r hr) S_Model_wf rfl cal_Model_has rfl (zw4 zm_X9_284 zi_yX9_has zs_yX9_has zn_X9) rfl rfl ⟨by decide, by decide, by decide, by decide⟩ (Nat.le_of_ble_eq_true rfl) (Or.inl rfl) (fun v μ11 => AW.kI (fun x12 => (?_ : AW _ _ _ _ 68 _ _ _ _ _ _)) v)
          refine AW.if_eq (off := 7) (tgt := 75) (by decide +kernel) (by decide) (fun _ => ?_) (fun _ => ?_)
          · refine AW.aload_n (i := 0) (a := 0) (by decide +kernel) rfl (?_ : AW _ _ _ _ 76 _ _ _ _ _ _)
            refine AW.ldcws (idx := 334) (tx := "move") (j := 16) (q := 1000016) (by decide +kernel) (by decide +kernel) rfl (?_ : AW _ _ _ _ 79 _ _ _ _ _ _)
            refine AW.callVw (g := cf_Model_has) (av := [zR (some (zSB + 16))]) (b0 := 0) (ci := 9) (idx := 284) (n := 1) (st := []) (by decide +kernel) (fun l hl r hr => c_Model_has l hl 16 _ r hr) S_Model_wf rfl cal_Model_has rfl (zw4 zm_X9_284 zi_yX9_has zs_yX9_has zn_X9) rfl rfl ⟨by decide, by decide, by decide, by decide⟩ (Nat.le_of_ble_eq_true rfl) (Or.inl rfl) (fun v μ13 => AW.kI (fun x14 => (?_ : AW _ _ _ _ 82 _ _ _ _ _ _)) v)
            refine AW.if_eq (off := 8) (tgt := 90) (by decide +kernel) (by decide) (fun _ => ?_) (fun _ => ?_)
            · refine AW.aload_n (i := 0) (a := 0) (by decide +kernel) rfl (?_ : AW _ _ _ _ 91 _ _ _ _ _ _)
              refine AW.ldcws (idx := 336) (tx := "end") (j := 17) (q := 1000017) (by decide +kernel) (by decide +kernel) rfl (?_ : AW _ _ _ _ 94 _ _ _ _ _ _)
              refine AW.callVw (g := cf_Model_has) (av := [zR (some (zSB + 17))]) (b0 := 0) (ci := 9) (idx := 284) (n := 1) (st := []) (by decide +kernel) (fun l hl r hr => c_Model_has l hl 17 _ r hr) S_Model_wf rfl cal_Model_has rfl (zw4 zm_X9_284 zi_yX9_has zs_yX9_has zn_X9) rfl rfl ⟨by decide, by decide, by decide, by decide⟩ (Nat.le_of_ble_eq_true rfl) (Or.inl rfl) (fun v μ15 => AW.kI (fun x16 => (?_ : AW _ _ _ _ 97 _ _ _ _ _ _)) v)
              refine AW.if_eq (off := 8) (tgt := 105) (by decide +kernel) (by decide) (fun _ => ?_) (fun _ => ?_)
              · refine AW.iconst (n := -1) (by decide +kernel) (?_ : AW _ _ _ _ 106 _ _ _ _ _ _)
                refine AW.sub (L' := [(0, zR (some 0)), (1, zI x2)]) [1, 0] rfl ?_
                exact j_Model_actLine_106 x2 (-1) μ15
              · refine AW.bipush (n := 6) (by decide +kernel) (by decide +kernel) (?_ : AW _ _ _ _ 102 _ _ _ _ _ _)
                refine AW.goto (off := 4) (tgt := 106) (by decide +kernel) (by decide) ?_
                refine AW.sub (L' := [(0, zR (some 0)), (1, zI x2)]) [1, 0] rfl ?_
                exact j_Model_actLine_106 x2 6 μ15
            · refine AW.bipush (n := 7) (by decide +kernel) (by decide +kernel) (?_ : AW _ _ _ _ 87 _ _ _ _ _ _)
              refine AW.goto (off := 19) (tgt := 106) (by decide +kernel) (by decide) ?_
              refine AW.sub (L' := [(0, zR (some 0)), (1, zI x2)]) [1, 0] rfl ?_
              exact j_Model_actLine_106 x2 7 μ13
          · refine AW.iconst (n := 5) (by decide +kernel) (?_ : AW _ _ _ _ 72 _ _ _ _ _ _)
            refine AW.goto (off := 34) (tgt := 106) (by decide +kernel) (by decide) ?_
            refine AW.sub (L' := [(0, zR (some 0)), (1, zI x2)]) [1, 0] rfl ?_
            exact j_Model_actLine_106 x2 5 μ11
        · refine AW.iconst (n := 4) (by decide +kernel) (?_ : AW _ _ _ _ 58 _ _ _ _ _ _)
          refine AW.goto (off := 48) (tgt := 106) (by decide +kernel) (by decide) ?_
          refine AW.sub (L' := [(0, zR (some 0)), (1, zI x2)]) [1, 0] rfl ?_
          exact j_Model_actLine_106 x2 4 μ9
      · refine AW.iconst (n := 3) (by decide +kernel) (?_ : AW _ _ _ _ 44 _ _ _ _ _ _)
        refine AW.goto (off := 62) (tgt := 106) (by decide +kernel) (by decide) ?_
        refine AW.sub (L' := [(0, zR (some 0)), (1, zI x2)]) [1, 0] rfl ?_
        exact j_Model_actLine_106 x2 3 μ7
    · refine AW.iconst (n := 1) (by decide +kernel) (?_ : AW _ _ _ _ 30 _ _ _ _ _ _)
      refine AW.goto (off := 76) (tgt := 106) (by decide +kernel) (by decide) ?_
      refine AW.sub (L' := [(0, zR (some 0)), (1, zI x2)]) [1, 0] rfl ?_
      exact j_Model_actLine_106 x2 1 μ5
  · refine AW.iconst (n := 0) (by decide +kernel) (?_ : AW _ _ _ _ 16 _ _ _ _ _ _)
    refine AW.goto (off := 90) (tgt := 106) (by decide +kernel) (by decide) ?_
    refine AW.sub (L' := [(0, zR (some 0)), (1, zI x2)]) [1, 0] rfl ?_
    exact j_Model_actLine_106 x2 0 μ3
theorem c_Model_actLine (l : Launch) (hl : l.stackTraces = false) (μ : ZMem) (r : ZRes) (h : F_Model_actLine μ = some r) : ZC l cf_Model_actLine S_Model S_Model [zR (some 0)] μ r := ZC.of hl (by decide +kernel) rfl rfl zft_X9_ok (Nat.le_of_ble_eq_true rfl) h (w_Model_actLine μ)
/-! WeirLedgerModel.acts()I -/
def cf_Model_acts_w2 : ZCf := (yX9_acts_, cX9_acts_, 3, some .int, [], 12, 0, 0, zft_X9, none)
theorem cal_Model_acts_w2 : zCallee cf_Model_acts_w2 0 := ⟨rfl, zc_yX9_acts_, by decide, by decide, by decide +kernel⟩
def L_Model_acts_w2_11 (c1 : Int) (K : Int → ZMem → Option ZRes) : Nat → Int → ZMem → Option ZRes
  | 0, _, _ => none
  | n + 1, v2, μ => zC (F_Model_comesMore v2 14 μ) (zkI (fun x5 μ4 => if w32 x5 = 0 then (K v2 μ4) else (zC (F_Model_actLine  μ4) (zkV (fun μ6 => zLet (v2 + 1) (fun x8 => L_Model_acts_w2_11 c1 K n x8 μ6))) zX0))) zX0
set_option maxRecDepth 100000 in
theorem l_Model_acts_w2_11 {c1 : Int} {K : Int → ZMem → Option ZRes} (hK : ∀ (k2 : Int) (μ : ZMem), AW cf_Model_acts_w2 S_Model.length S_Model S_Model 31 [(0, zR (some 0)), (1, zI c1), (2, zI k2)] [] μ 0 0 (K k2 μ)) : ∀ (n : Nat) (v2 : Int) (μ : ZMem), AW cf_Model_acts_w2 S_Model.length S_Model S_Model 11 [(0, zR (some 0)), (1, zI c1), (2, zI v2)] [] μ 0 0 (L_Model_acts_w2_11 c1 K n v2 μ) := by
  intro n
  induction n with
  | zero => intro v2 μ; exact AW.noth
  | succ n ih =>
    intro v2 μ
    rw [L_Model_acts_w2_11]
    refine AW.aload_n (i := 0) (a := 0) (by decide +kernel) rfl (?_ : AW _ _ _ _ 12 _ _ _ _ _ _)
    refine AW.iload_n (i := 2) (a := v2) (by decide +kernel) rfl (?_ : AW _ _ _ _ 13 _ _ _ _ _ _)
    refine AW.bipush (n := 14) (by decide +kernel) (by decide +kernel) (?_ : AW _ _ _ _ 15 _ _ _ _ _ _)
    refine AW.callVw (g := cf_Model_comesMore) (av := [zI v2, zI 14]) (b0 := 0) (ci := 9) (idx := 321) (n := 2) (st := []) (by decide +kernel) (fun l hl r hr => c_Model_comesMore l hl v2 14 _ r hr) S_Model_wf rfl cal_Model_comesMore rfl (zw4 zm_X9_321 zi_yX9_comesMore zs_yX9_comesMore zn_X9) rfl rfl ⟨by decide, by decide, by decide, by decide⟩ (Nat.le_of_ble_eq_true rfl) (Or.inl rfl) (fun v μ4 => AW.kI (fun x5 => (?_ : AW _ _ _ _ 18 _ _ _ _ _ _)) v)
    refine AW.if_eq (off := 13) (tgt := 31) (by decide +kernel) (by decide) (fun _ => ?_) (fun _ => ?_)
    · exact hK v2 μ4
    · refine AW.aload_n (i := 0) (a := 0) (by decide +kernel) rfl (?_ : AW _ _ _ _ 22 _ _ _ _ _ _)
      refine AW.callVw (g := cf_Model_actLine) (av := []) (b0 := 0) (ci := 9) (idx := 339) (n := 0) (st := []) (by decide +kernel) (fun l hl r hr => c_Model_actLine l hl  _ r hr) S_Model_wf rfl cal_Model_actLine rfl (zw4 zm_X9_339 zi_yX9_actLine zs_yX9_actLine zn_X9) rfl rfl ⟨by decide, by decide, by decide, by decide⟩ (Nat.le_of_ble_eq_true rfl) (Or.inl rfl) (fun v μ6 => AW.kV (?_ : AW _ _ _ _ 25 _ _ _ _ _ _) v)
      refine AW.iincL (i := 2) (n := 1) (a := v2) (L' := fun x8 => [(2, zI x8), (0, zR (some 0)), (1, zI c1)]) (by decide +kernel) rfl (by decide) (fun _ => rfl) (fun x8 => (?_ : AW _ _ _ _ 28 _ _ _ _ _ _))
      refine AW.goto (off := -17) (tgt := 11) (by decide +kernel) (by decide) ?_
      refine AW.sub (L' := [(0, zR (some 0)), (1, zI c1), (2, zI x8)]) [1, 2, 0] rfl ?_
      exact ih x8 μ6
def J_Model_acts_w2_45 (u1 : Int) (u2 : Int) (y0 : Int) (μ : ZMem) : Option ZRes := zLet (zUp μ 0 0 y0) (fun μ11 => if w32 (μ11 0 0) = 0 then (some (.inr (some (zI u2)), μ11)) else (zLet (zUp μ11 0 11 u1) (fun μ12 => zC (F_Model_worksOut  μ12) (zkV (fun μ13 => some (.inr (some (zI 0)), μ13))) zX0)))
set_option maxRecDepth 100000 in
theorem j_Model_acts_w2_45 (u1 : Int) (u2 : Int) (y0 : Int) (μ : ZMem) : AW cf_Model_acts_w2 S_Model.length S_Model S_Model 45 [(0, zR (some 0)), (1, zI u1), (2, zI u2)] [zI y0, zR (some 0)] μ 0 0 (J_Model_acts_w2_45 u1 u2 y0 μ) := by
  unfold J_Model_acts_w2_45
  refine AW.putiL (idx := 93) (ci := 9) (k := 0) (r := 0) (by decide +kernel) rfl rfl rfl (fun μ11 => (?_ : AW _ _ _ _ 48 _ _ _ _ _ _))
  refine AW.aload_n (i := 0) (a := 0) (by decide +kernel) rfl (?_ : AW _ _ _ _ 49 _ _ _ _ _ _)
  refine AW.getI (idx := 93) (ci := 9) (k := 0) (r := 0) (by decide +kernel) rfl rfl rfl (?_ : AW _ _ _ _ 52 _ _ _ _ _ _)
  refine AW.if_ne (off := 5) (tgt := 57) (by decide +kernel) (by decide) (fun _ => ?_) (fun _ => ?_)
  · refine AW.iload_n (i := 2) (a := u2) (by decide +kernel) rfl (?_ : AW _ _ _ _ 56 _ _ _ _ _ _)
    exact AW.reti (by decide +kernel) rfl (by decide) (by decide)
  · refine AW.aload_n (i := 0) (a := 0) (by decide +kernel) rfl (?_ : AW _ _ _ _ 58 _ _ _ _ _ _)
    refine AW.iload_n (i := 1) (a := u1) (by decide +kernel) rfl (?_ : AW _ _ _ _ 59 _ _ _ _ _ _)
    refine AW.putiL (idx := 116) (ci := 9) (k := 11) (r := 0) (by decide +kernel) rfl rfl rfl (fun μ12 => (?_ : AW _ _ _ _ 62 _ _ _ _ _ _))
    refine AW.aload_n (i := 0) (a := 0) (by decide +kernel) rfl (?_ : AW _ _ _ _ 63 _ _ _ _ _ _)
    refine AW.callVw (g := cf_Model_worksOut) (av := []) (b0 := 0) (ci := 9) (idx := 342) (n := 0) (st := []) (by decide +kernel) (fun l hl r hr => c_Model_worksOut l hl  _ r hr) S_Model_wf rfl cal_Model_worksOut rfl (zw4 zm_X9_342 zi_yX9_worksOut zs_yX9_worksOut zn_X9) rfl rfl ⟨by decide, by decide, by decide, by decide⟩ (Nat.le_of_ble_eq_true rfl) (Or.inl rfl) (fun v μ13 => AW.kV (?_ : AW _ _ _ _ 66 _ _ _ _ _ _) v)
    refine AW.iconst (n := 0) (by decide +kernel) (?_ : AW _ _ _ _ 67 _ _ _ _ _ _)
    exact AW.reti (by decide +kernel) rfl (by decide) (by decide)
def F_Model_acts_w2 (μ : ZMem) : Option ZRes := zC (F_Model_begins  μ) (zkV (fun μ1 => zLet ((μ1 0 11)) (fun x3 => L_Model_acts_w2_11 x3 (fun k10 μ9 => if w32 (μ9 0 24) = w32 (-1) then (J_Model_acts_w2_45 x3 k10 0 μ9) else (J_Model_acts_w2_45 x3 k10 1 μ9)) zN 0 μ1))) zX0
set_option maxRecDepth 100000 in
theorem w_Model_acts_w2 (μ : ZMem) : AW cf_Model_acts_w2 S_Model.length S_Model S_Model 0 [(0, zR (some 0))] [] μ 0 0 (F_Model_acts_w2 μ) := by
  unfold F_Model_acts_w2
  refine AW.aload_n (i := 0) (a := 0) (by decide +kernel) rfl (?_ : AW _ _ _ _ 1 _ _ _ _ _ _)
  refine AW.callVw (g := cf_Model_begins) (av := []) (b0 := 0) (ci := 9) (idx := 314) (n := 0) (st := []) (by decide +kernel) (fun l hl r hr => c_Model_begins l hl  _ r hr) S_Model_wf rfl cal_Model_begins rfl (zw4 zm_X9_314 zi_yX9_begins zs_yX9_begins zn_X9) rfl rfl ⟨by decide, by decide, by decide, by decide⟩ (Nat.le_of_ble_eq_true rfl) (Or.inl rfl) (fun v μ1 => AW.kV (?_ : AW _ _ _ _ 4 _ _ _ _ _ _) v)
  refine AW.aload_n (i := 0) (a := 0) (by decide +kernel) rfl (?_ : AW _ _ _ _ 5 _ _ _ _ _ _)
  refine AW.getI (idx := 116) (ci := 9) (k := 11) (r := 0) (by decide +kernel) rfl rfl rfl (?_ : AW _ _ _ _ 8 _ _ _ _ _ _)
  refine AW.istoreL_n (i := 1) (L' := fun x3 => [(1, zI x3), (0, zR (some 0))]) (by decide +kernel) (by decide) (fun _ => rfl) (fun x3 => (?_ : AW _ _ _ _ 9 _ _ _ _ _ _))
  refine AW.iconst (n := 0) (by decide +kernel) (?_ : AW _ _ _ _ 10 _ _ _ _ _ _)
  refine AW.istore_n' (i := 2) (L' := [(2, zI 0), (1, zI x3), (0, zR (some 0))]) (by decide +kernel) (by decide) rfl (?_ : AW _ _ _ _ 11 _ _ _ _ _ _)
  refine AW.sub (L' := [(0, zR (some 0)), (1, zI x3), (2, zI 0)]) [2, 1, 0] rfl ?_
  refine l_Model_acts_w2_11 (fun k10 μ9 => ?_) zN _ _
  refine AW.aload_n (i := 0) (a := 0) (by decide +kernel) rfl (?_ : AW _ _ _ _ 32 _ _ _ _ _ _)
  refine AW.aload_n (i := 0) (a := 0) (by decide +kernel) rfl (?_ : AW _ _ _ _ 33 _ _ _ _ _ _)
  refine AW.getI (idx := 60) (ci := 9) (k := 24) (r := 0) (by decide +kernel) rfl rfl rfl (?_ : AW _ _ _ _ 36 _ _ _ _ _ _)
  refine AW.iconst (n := -1) (by decide +kernel) (?_ : AW _ _ _ _ 37 _ _ _ _ _ _)
  refine AW.icmp_ne (off := 7) (tgt := 44) (by decide +kernel) (by decide) (fun _ => ?_) (fun _ => ?_)
  · refine AW.iconst (n := 0) (by decide +kernel) (?_ : AW _ _ _ _ 41 _ _ _ _ _ _)
    refine AW.goto (off := 4) (tgt := 45) (by decide +kernel) (by decide) ?_
    exact j_Model_acts_w2_45 x3 k10 0 μ9
  · refine AW.iconst (n := 1) (by decide +kernel) (?_ : AW _ _ _ _ 45 _ _ _ _ _ _)
    exact j_Model_acts_w2_45 x3 k10 1 μ9
theorem c_Model_acts_w2 (l : Launch) (hl : l.stackTraces = false) (μ : ZMem) (r : ZRes) (h : F_Model_acts_w2 μ = some r) : ZC l cf_Model_acts_w2 S_Model S_Model [zR (some 0)] μ r := ZC.of hl (by decide +kernel) rfl rfl zft_X9_ok (Nat.le_of_ble_eq_true rfl) h (w_Model_acts_w2 μ)
/-! WeirLedgerModel.fault()I -/
def cf_Model_fault : ZCf := (yX9_fault, cX9_fault, 1, some .int, [], 2, 0, 0, zft_X9, none)
theorem cal_Model_fault : zCallee cf_Model_fault 0 := ⟨rfl, zc_yX9_fault, by decide, by decide, by decide +kernel⟩
def F_Model_fault (μ : ZMem) : Option ZRes := zLet (zUp μ 0 0 0) (fun μ1 => some (.inr (some (zI (μ1 0 24))), μ1))
set_option maxRecDepth 100000 in
theorem w_Model_fault (μ : ZMem) : AW cf_Model_fault S_Model.length S_Model S_Model 0 [(0, zR (some 0))] [] μ 0 0 (F_Model_fault μ) := by
  unfold F_Model_fault
  refine AW.aload_n (i := 0) (a := 0) (by decide +kernel) rfl (?_ : AW _ _ _ _ 1 _ _ _ _ _ _)
  refine AW.iconst (n := 0) (by decide +kernel) (?_ : AW _ _ _ _ 2 _ _ _ _ _ _)
  refine AW.putiL (idx := 93) (ci := 9) (k := 0) (r := 0) (by decide +kernel) rfl rfl rfl (fun μ1 => (?_ : AW _ _ _ _ 5 _ _ _ _ _ _))
  refine AW.aload_n (i := 0) (a := 0) (by decide +kernel) rfl (?_ : AW _ _ _ _ 6 _ _ _ _ _ _)
  refine AW.getI (idx := 60) (ci := 9) (k := 24) (r := 0) (by decide +kernel) rfl rfl rfl (?_ : AW _ _ _ _ 9 _ _ _ _ _ _)
  exact AW.reti (by decide +kernel) rfl (by decide) (by decide)
theorem c_Model_fault (l : Launch) (hl : l.stackTraces = false) (μ : ZMem) (r : ZRes) (h : F_Model_fault μ = some r) : ZC l cf_Model_fault S_Model S_Model [zR (some 0)] μ r := ZC.of hl (by decide +kernel) rfl rfl zft_X9_ok (Nat.le_of_ble_eq_true rfl) h (w_Model_fault μ)
/-! WeirLedgerModel.term(I)I -/
def cf_Model_term : ZCf := (yX9_term, cX9_term, 2, some .int, [], 3, 0, 0, zft_X9, none)
theorem cal_Model_term : zCallee cf_Model_term 1 := ⟨rfl, zc_yX9_term, by decide, by decide, by decide +kernel⟩
def J_Model_term_18 (a1 : Int) (y0 : Int) (μ : ZMem) : Option ZRes := zLet (zUp μ 0 0 y0) (fun μ3 => if w32 (μ3 0 0) ≤ 0 then (zRd μ3 2 7 a1 (fun x4 => some (.inr (some (zI x4)), μ3))) else (some (.inr (some (zI 0)), μ3)))
set_option maxRecDepth 100000 in
theorem j_Model_term_18 (a1 : Int) (y0 : Int) (μ : ZMem) : AW cf_Model_term S_Model.length S_Model S_Model 18 [(0, zR (some 0)), (1, zI a1)] [zI y0, zR (some 0)] μ 0 0 (J_Model_term_18 a1 y0 μ) := by
  unfold J_Model_term_18
  refine AW.putiL (idx := 93) (ci := 9) (k := 0) (r := 0) (by decide +kernel) rfl rfl rfl (fun μ3 => (?_ : AW _ _ _ _ 21 _ _ _ _ _ _))
  refine AW.aload_n (i := 0) (a := 0) (by decide +kernel) rfl (?_ : AW _ _ _ _ 22 _ _ _ _ _ _)
  refine AW.getI (idx := 93) (ci := 9) (k := 0) (r := 0) (by decide +kernel) rfl rfl rfl (?_ : AW _ _ _ _ 25 _ _ _ _ _ _)
  refine AW.if_le (off := 7) (tgt := 32) (by decide +kernel) (by decide) (fun _ => ?_) (fun _ => ?_)
  · refine AW.aload_n (i := 0) (a := 0) (by decide +kernel) rfl (?_ : AW _ _ _ _ 33 _ _ _ _ _ _)
    refine AW.getR (idx := 13) (ci := 9) (k := 2) (r := 0) (by decide +kernel) rfl rfl rfl (?_ : AW _ _ _ _ 36 _ _ _ _ _ _)
    refine AW.iload_n (i := 1) (a := a1) (by decide +kernel) rfl (?_ : AW _ _ _ _ 37 _ _ _ _ _ _)
    refine AW.iald (r := 2) (by decide +kernel) rfl (fun x4 => (?_ : AW _ _ _ _ 38 _ _ _ _ _ _))
    exact AW.reti (by decide +kernel) rfl (by decide) (by decide)
  · refine AW.iconst (n := 0) (by decide +kernel) (?_ : AW _ _ _ _ 29 _ _ _ _ _ _)
    refine AW.goto (off := 9) (tgt := 38) (by decide +kernel) (by decide) ?_
    exact AW.reti (by decide +kernel) rfl (by decide) (by decide)
def F_Model_term (a1 : Int) (μ : ZMem) : Option ZRes := zC (F_Model_isIn (w32 a1) 0 6 μ) (zkI (fun x2 _ => if w32 x2 = 0 then (J_Model_term_18 a1 1 μ) else (J_Model_term_18 a1 0 μ))) zX0
set_option maxRecDepth 100000 in
theorem w_Model_term (a1 : Int) (μ : ZMem) : AW cf_Model_term S_Model.length S_Model S_Model 0 [(0, zR (some 0)), (1, zI a1)] [] μ 0 0 (F_Model_term a1 μ) := by
  unfold F_Model_term
  refine AW.aload_n (i := 0) (a := 0) (by decide +kernel) rfl (?_ : AW _ _ _ _ 1 _ _ _ _ _ _)
  refine AW.iload_n (i := 1) (a := a1) (by decide +kernel) rfl (?_ : AW _ _ _ _ 2 _ _ _ _ _ _)
  refine AW.i2l (by decide +kernel) (?_ : AW _ _ _ _ 3 _ _ _ _ _ _)
  refine AW.lconst0 (by decide +kernel) (?_ : AW _ _ _ _ 4 _ _ _ _ _ _)
  refine AW.ldc2 (idx := 345) (v := 6) (by decide +kernel) zk_X9_345 (?_ : AW _ _ _ _ 7 _ _ _ _ _ _)
  refine AW.callP (g := cf_Model_isIn) (av := [zJ (w32 a1), zJ 0, zJ 6]) (idx := 99) (n := 3) (st := [zR (some 0)]) (by decide +kernel) (fun l hl r hr => c_Model_isIn l hl (w32 a1) 0 6 _ r hr) rfl cal_Model_isIn rfl (zw3 zm_X9_99 zt_yX9_isIn zn_X9) ⟨by decide, by decide, by decide, by decide⟩ (Nat.le_of_ble_eq_true rfl) (fun v _ => AW.kI (fun x2 => (?_ : AW _ _ _ _ 10 _ _ _ _ _ _)) v)
  refine AW.if_eq (off := 7) (tgt := 17) (by decide +kernel) (by decide) (fun _ => ?_) (fun _ => ?_)
  · refine AW.iconst (n := 1) (by decide +kernel) (?_ : AW _ _ _ _ 18 _ _ _ _ _ _)
    exact j_Model_term_18 a1 1 μ
  · refine AW.iconst (n := 0) (by decide +kernel) (?_ : AW _ _ _ _ 14 _ _ _ _ _ _)
    refine AW.goto (off := 4) (tgt := 18) (by decide +kernel) (by decide) ?_
    exact j_Model_term_18 a1 0 μ
theorem c_Model_term (l : Launch) (hl : l.stackTraces = false) (a1 : Int) (μ : ZMem) (r : ZRes) (h : F_Model_term a1 μ = some r) : ZC l cf_Model_term S_Model S_Model [zR (some 0), zI a1] μ r := ZC.of hl (by decide +kernel) rfl rfl zft_X9_ok (Nat.le_of_ble_eq_true rfl) h (w_Model_term a1 μ)
/-! WeirLedgerModel.investor(II)J -/
def cf_Model_investor : ZCf := (yX9_investor, cX9_investor, 3, some .long, [], 4, 0, 0, zft_X9, none)
theorem cal_Model_investor : zCallee cf_Model_investor 2 := ⟨rfl, zc_yX9_investor, by decide, by decide, by decide +kernel⟩
def J_Model_investor_30 (a1 : Int) (a2 : Int) (y0 : Int) (μ : ZMem) : Option ZRes := zLet (zUp μ 0 0 y0) (fun μ3 => if w32 (μ3 0 0) ≤ 0 then (if w32 a2 = 4 then (zC (F_Model_weightOf a1 μ3) (zkJ (fun x7 μ6 => some (.inr (some (zJ x7)), μ6))) zX0) else (if w32 a2 = 5 then (zC (F_Model_placeOf a1 4 μ3) (zkI (fun x11 _ => zRd μ3 5 92 x11 (fun x12 => some (.inr (some (zJ x12)), μ3)))) zX0) else (zC (F_Model_placeOf a1 a2 μ3) (zkI (fun x14 _ => zRd μ3 5 92 x14 (fun x15 => some (.inr (some (zJ x15)), μ3)))) zX0))) else (some (.inr (some (zJ 0)), μ3)))
set_option maxRecDepth 100000 in
theorem j_Model_investor_30 (a1 : Int) (a2 : Int) (y0 : Int) (μ : ZMem) : AW cf_Model_investor S_Model.length S_Model S_Model 30 [(0, zR (some 0)), (1, zI a1), (2, zI a2)] [zI y0, zR (some 0)] μ 0 0 (J_Model_investor_30 a1 a2 y0 μ) := by
  unfold J_Model_investor_30
  refine AW.putiL (idx := 93) (ci := 9) (k := 0) (r := 0) (by decide +kernel) rfl rfl rfl (fun μ3 => (?_ : AW _ _ _ _ 33 _ _ _ _ _ _))
  refine AW.aload_n (i := 0) (a := 0) (by decide +kernel) rfl (?_ : AW _ _ _ _ 34 _ _ _ _ _ _)
  refine AW.getI (idx := 93) (ci := 9) (k := 0) (r := 0) (by decide +kernel) rfl rfl rfl (?_ : AW _ _ _ _ 37 _ _ _ _ _ _)
  refine AW.if_le (off := 5) (tgt := 42) (by decide +kernel) (by decide) (fun _ => ?_) (fun _ => ?_)
  · refine AW.iload_n (i := 2) (a := a2) (by decide +kernel) rfl (?_ : AW _ _ _ _ 43 _ _ _ _ _ _)
    refine AW.two' (cnd := w32 a2 = 4) (fun h5 => ?_) (fun h4 => ?_)
    · refine AW.lsw (dflt := 42) (ps := #[(4, 25), (5, 31)]) (len := 25) (off := 25) (tgt := 68) (by decide +kernel) (by decide) (zofs_hit h5) (by decide) ?_
      refine AW.aload_n (i := 0) (a := 0) (by decide +kernel) rfl (?_ : AW _ _ _ _ 69 _ _ _ _ _ _)
      refine AW.iload_n (i := 1) (a := a1) (by decide +kernel) rfl (?_ : AW _ _ _ _ 70 _ _ _ _ _ _)
      refine AW.callVw (g := cf_Model_weightOf) (av := [zI a1]) (b0 := 0) (ci := 9) (idx := 129) (n := 1) (st := []) (by decide +kernel) (fun l hl r hr => c_Model_weightOf l hl a1 _ r hr) S_Model_wf rfl cal_Model_weightOf rfl (zw4 zm_X9_129 zi_yX9_weightOf zs_yX9_weightOf zn_X9) rfl rfl ⟨by decide, by decide, by decide, by decide⟩ (Nat.le_of_ble_eq_true rfl) (Or.inl rfl) (fun v μ6 => AW.kJ (fun x7 => (?_ : AW _ _ _ _ 73 _ _ _ _ _ _)) v)
      exact AW.retl (by decide +kernel) rfl (by decide) (by decide)
    refine AW.two' (cnd := w32 a2 = 5) (fun h9 => ?_) (fun h8 => ?_)
    · refine AW.lsw (dflt := 42) (ps := #[(4, 25), (5, 31)]) (len := 25) (off := 31) (tgt := 74) (by decide +kernel) (by decide) (zofs_miss h4 (zofs_hit h9)) (by decide) ?_
      refine AW.aload_n (i := 0) (a := 0) (by decide +kernel) rfl (?_ : AW _ _ _ _ 75 _ _ _ _ _ _)
      refine AW.getR (idx := 22) (ci := 9) (k := 7) (r := 0) (by decide +kernel) rfl rfl rfl (?_ : AW _ _ _ _ 78 _ _ _ _ _ _)
      refine AW.iload_n (i := 1) (a := a1) (by decide +kernel) rfl (?_ : AW _ _ _ _ 79 _ _ _ _ _ _)
      refine AW.iconst (n := 4) (by decide +kernel) (?_ : AW _ _ _ _ 80 _ _ _ _ _ _)
      refine AW.callP (g := cf_Model_placeOf) (av := [zI a1, zI 4]) (idx := 110) (n := 2) (st := [zR (some 5)]) (by decide +kernel) (fun l hl r hr => c_Model_placeOf l hl a1 4 _ r hr) rfl cal_Model_placeOf rfl (zw3 zm_X9_110 zt_yX9_placeOf zn_X9) ⟨by decide, by decide, by decide, by decide⟩ (Nat.le_of_ble_eq_true rfl) (fun v _ => AW.kI (fun x11 => (?_ : AW _ _ _ _ 83 _ _ _ _ _ _)) v)
      refine AW.lald (r := 5) (by decide +kernel) rfl (fun x12 => (?_ : AW _ _ _ _ 84 _ _ _ _ _ _))
      exact AW.retl (by decide +kernel) rfl (by decide) (by decide)
    refine AW.lsw (dflt := 42) (ps := #[(4, 25), (5, 31)]) (len := 25) (off := 42) (tgt := 85) (by decide +kernel) (by decide) (zofs_miss h4 (zofs_miss h8 (zofs_nil))) (by decide) ?_
    refine AW.aload_n (i := 0) (a := 0) (by decide +kernel) rfl (?_ : AW _ _ _ _ 86 _ _ _ _ _ _)
    refine AW.getR (idx := 22) (ci := 9) (k := 7) (r := 0) (by decide +kernel) rfl rfl rfl (?_ : AW _ _ _ _ 89 _ _ _ _ _ _)
    refine AW.iload_n (i := 1) (a := a1) (by decide +kernel) rfl (?_ : AW _ _ _ _ 90 _ _ _ _ _ _)
    refine AW.iload_n (i := 2) (a := a2) (by decide +kernel) rfl (?_ : AW _ _ _ _ 91 _ _ _ _ _ _)
    refine AW.callP (g := cf_Model_placeOf) (av := [zI a1, zI a2]) (idx := 110) (n := 2) (st := [zR (some 5)]) (by decide +kernel) (fun l hl r hr => c_Model_placeOf l hl a1 a2 _ r hr) rfl cal_Model_placeOf rfl (zw3 zm_X9_110 zt_yX9_placeOf zn_X9) ⟨by decide, by decide, by decide, by decide⟩ (Nat.le_of_ble_eq_true rfl) (fun v _ => AW.kI (fun x14 => (?_ : AW _ _ _ _ 94 _ _ _ _ _ _)) v)
    refine AW.lald (r := 5) (by decide +kernel) rfl (fun x15 => (?_ : AW _ _ _ _ 95 _ _ _ _ _ _))
    exact AW.retl (by decide +kernel) rfl (by decide) (by decide)
  · refine AW.lconst0 (by decide +kernel) (?_ : AW _ _ _ _ 41 _ _ _ _ _ _)
    exact AW.retl (by decide +kernel) rfl (by decide) (by decide)
def F_Model_investor (a1 : Int) (a2 : Int) (μ : ZMem) : Option ZRes := zC (F_Model_isInvestor a1 μ) (zkI (fun x2 μ1 => if w32 x2 = 0 then (J_Model_investor_30 a1 a2 1 μ1) else (zC (F_Model_isIn (w32 a2) 0 5 μ1) (zkI (fun x17 _ => if w32 x17 = 0 then (J_Model_investor_30 a1 a2 2 μ1) else (J_Model_investor_30 a1 a2 0 μ1))) zX0))) zX0
set_option maxRecDepth 100000 in
theorem w_Model_investor (a1 : Int) (a2 : Int) (μ : ZMem) : AW cf_Model_investor S_Model.length S_Model S_Model 0 [(0, zR (some 0)), (1, zI a1), (2, zI a2)] [] μ 0 0 (F_Model_investor a1 a2 μ) := by
  unfold F_Model_investor
  refine AW.aload_n (i := 0) (a := 0) (by decide +kernel) rfl (?_ : AW _ _ _ _ 1 _ _ _ _ _ _)
  refine AW.aload_n (i := 0) (a := 0) (by decide +kernel) rfl (?_ : AW _ _ _ _ 2 _ _ _ _ _ _)
  refine AW.iload_n (i := 1) (a := a1) (by decide +kernel) rfl (?_ : AW _ _ _ _ 3 _ _ _ _ _ _)
  refine AW.callVw (g := cf_Model_isInvestor) (av := [zI a1]) (b0 := 0) (ci := 9) (idx := 347) (n := 1) (st := [zR (some 0)]) (by decide +kernel) (fun l hl r hr => c_Model_isInvestor l hl a1 _ r hr) S_Model_wf rfl cal_Model_isInvestor rfl (zw4 zm_X9_347 zi_yX9_isInvestor zs_yX9_isInvestor zn_X9) rfl rfl ⟨by decide, by decide, by decide, by decide⟩ (Nat.le_of_ble_eq_true rfl) (Or.inl rfl) (fun v μ1 => AW.kI (fun x2 => (?_ : AW _ _ _ _ 6 _ _ _ _ _ _)) v)
  refine AW.if_ne (off := 7) (tgt := 13) (by decide +kernel) (by decide) (fun _ => ?_) (fun _ => ?_)
  · refine AW.iconst (n := 1) (by decide +kernel) (?_ : AW _ _ _ _ 10 _ _ _ _ _ _)
    refine AW.goto (off := 20) (tgt := 30) (by decide +kernel) (by decide) ?_
    exact j_Model_investor_30 a1 a2 1 μ1
  · refine AW.iload_n (i := 2) (a := a2) (by decide +kernel) rfl (?_ : AW _ _ _ _ 14 _ _ _ _ _ _)
    refine AW.i2l (by decide +kernel) (?_ : AW _ _ _ _ 15 _ _ _ _ _ _)
    refine AW.lconst0 (by decide +kernel) (?_ : AW _ _ _ _ 16 _ _ _ _ _ _)
    refine AW.ldc2 (idx := 351) (v := 5) (by decide +kernel) zk_X9_351 (?_ : AW _ _ _ _ 19 _ _ _ _ _ _)
    refine AW.callP (g := cf_Model_isIn) (av := [zJ (w32 a2), zJ 0, zJ 5]) (idx := 99) (n := 3) (st := [zR (some 0)]) (by decide +kernel) (fun l hl r hr => c_Model_isIn l hl (w32 a2) 0 5 _ r hr) rfl cal_Model_isIn rfl (zw3 zm_X9_99 zt_yX9_isIn zn_X9) ⟨by decide, by decide, by decide, by decide⟩ (Nat.le_of_ble_eq_true rfl) (fun v _ => AW.kI (fun x17 => (?_ : AW _ _ _ _ 22 _ _ _ _ _ _)) v)
    refine AW.if_ne (off := 7) (tgt := 29) (by decide +kernel) (by decide) (fun _ => ?_) (fun _ => ?_)
    · refine AW.iconst (n := 2) (by decide +kernel) (?_ : AW _ _ _ _ 26 _ _ _ _ _ _)
      refine AW.goto (off := 4) (tgt := 30) (by decide +kernel) (by decide) ?_
      exact j_Model_investor_30 a1 a2 2 μ1
    · refine AW.iconst (n := 0) (by decide +kernel) (?_ : AW _ _ _ _ 30 _ _ _ _ _ _)
      exact j_Model_investor_30 a1 a2 0 μ1
theorem c_Model_investor (l : Launch) (hl : l.stackTraces = false) (a1 : Int) (a2 : Int) (μ : ZMem) (r : ZRes) (h : F_Model_investor a1 a2 μ = some r) : ZC l cf_Model_investor S_Model S_Model [zR (some 0), zI a1, zI a2] μ r := ZC.of hl (by decide +kernel) rfl rfl zft_X9_ok (Nat.le_of_ble_eq_true rfl) h (w_Model_investor a1 a2 μ)
/-! WeirLedgerModel.deal(II)I -/
def cf_Model_deal : ZCf := (yX9_deal, cX9_deal, 3, some .int, [], 4, 0, 0, zft_X9, none)
theorem cal_Model_deal : zCallee cf_Model_deal 2 := ⟨rfl, zc_yX9_deal, by decide, by decide, by decide +kernel⟩
def J_Model_deal_30 (a1 : Int) (a2 : Int) (y0 : Int) (μ : ZMem) : Option ZRes := zLet (zUp μ 0 0 y0) (fun μ3 => if w32 (μ3 0 0) ≤ 0 then (if w32 a2 = w32 4 then (zRd μ3 4 6 a1 (fun x4 => some (.inr (some (zI x4)), μ3))) else (zC (F_Model_dealAt a1 a2 μ3) (zkI (fun x6 _ => zRd μ3 5 92 x6 (fun x7 => some (.inr (some (zI x7)), μ3)))) zX0)) else (some (.inr (some (zI 0)), μ3)))
set_option maxRecDepth 100000 in
theorem j_Model_deal_30 (a1 : Int) (a2 : Int) (y0 : Int) (μ : ZMem) : AW cf_Model_deal S_Model.length S_Model S_Model 30 [(0, zR (some 0)), (1, zI a1), (2, zI a2)] [zI y0, zR (some 0)] μ 0 0 (J_Model_deal_30 a1 a2 y0 μ) := by
  unfold J_Model_deal_30
  refine AW.putiL (idx := 93) (ci := 9) (k := 0) (r := 0) (by decide +kernel) rfl rfl rfl (fun μ3 => (?_ : AW _ _ _ _ 33 _ _ _ _ _ _))
  refine AW.aload_n (i := 0) (a := 0) (by decide +kernel) rfl (?_ : AW _ _ _ _ 34 _ _ _ _ _ _)
  refine AW.getI (idx := 93) (ci := 9) (k := 0) (r := 0) (by decide +kernel) rfl rfl rfl (?_ : AW _ _ _ _ 37 _ _ _ _ _ _)
  refine AW.if_le (off := 7) (tgt := 44) (by decide +kernel) (by decide) (fun _ => ?_) (fun _ => ?_)
  · refine AW.iload_n (i := 2) (a := a2) (by decide +kernel) rfl (?_ : AW _ _ _ _ 45 _ _ _ _ _ _)
    refine AW.iconst (n := 4) (by decide +kernel) (?_ : AW _ _ _ _ 46 _ _ _ _ _ _)
    refine AW.icmp_ne (off := 12) (tgt := 58) (by decide +kernel) (by decide) (fun _ => ?_) (fun _ => ?_)
    · refine AW.aload_n (i := 0) (a := 0) (by decide +kernel) rfl (?_ : AW _ _ _ _ 50 _ _ _ _ _ _)
      refine AW.getR (idx := 19) (ci := 9) (k := 4) (r := 0) (by decide +kernel) rfl rfl rfl (?_ : AW _ _ _ _ 53 _ _ _ _ _ _)
      refine AW.iload_n (i := 1) (a := a1) (by decide +kernel) rfl (?_ : AW _ _ _ _ 54 _ _ _ _ _ _)
      refine AW.iald (r := 4) (by decide +kernel) rfl (fun x4 => (?_ : AW _ _ _ _ 55 _ _ _ _ _ _))
      refine AW.goto (off := 14) (tgt := 69) (by decide +kernel) (by decide) ?_
      exact AW.reti (by decide +kernel) rfl (by decide) (by decide)
    · refine AW.aload_n (i := 0) (a := 0) (by decide +kernel) rfl (?_ : AW _ _ _ _ 59 _ _ _ _ _ _)
      refine AW.getR (idx := 22) (ci := 9) (k := 7) (r := 0) (by decide +kernel) rfl rfl rfl (?_ : AW _ _ _ _ 62 _ _ _ _ _ _)
      refine AW.iload_n (i := 1) (a := a1) (by decide +kernel) rfl (?_ : AW _ _ _ _ 63 _ _ _ _ _ _)
      refine AW.iload_n (i := 2) (a := a2) (by decide +kernel) rfl (?_ : AW _ _ _ _ 64 _ _ _ _ _ _)
      refine AW.callP (g := cf_Model_dealAt) (av := [zI a1, zI a2]) (idx := 166) (n := 2) (st := [zR (some 5)]) (by decide +kernel) (fun l hl r hr => c_Model_dealAt l hl a1 a2 _ r hr) rfl cal_Model_dealAt rfl (zw3 zm_X9_166 zt_yX9_dealAt zn_X9) ⟨by decide, by decide, by decide, by decide⟩ (Nat.le_of_ble_eq_true rfl) (fun v _ => AW.kI (fun x6 => (?_ : AW _ _ _ _ 67 _ _ _ _ _ _)) v)
      refine AW.lald (r := 5) (by decide +kernel) rfl (fun x7 => (?_ : AW _ _ _ _ 68 _ _ _ _ _ _))
      refine AW.l2i (by decide +kernel) (?_ : AW _ _ _ _ 69 _ _ _ _ _ _)
      exact AW.reti (by decide +kernel) rfl (by decide) (by decide)
  · refine AW.iconst (n := 0) (by decide +kernel) (?_ : AW _ _ _ _ 41 _ _ _ _ _ _)
    refine AW.goto (off := 28) (tgt := 69) (by decide +kernel) (by decide) ?_
    exact AW.reti (by decide +kernel) rfl (by decide) (by decide)
def F_Model_deal (a1 : Int) (a2 : Int) (μ : ZMem) : Option ZRes := zC (F_Model_isDeal a1 μ) (zkI (fun x2 μ1 => if w32 x2 = 0 then (J_Model_deal_30 a1 a2 1 μ1) else (zC (F_Model_isIn (w32 a2) 0 4 μ1) (zkI (fun x9 _ => if w32 x9 = 0 then (J_Model_deal_30 a1 a2 2 μ1) else (J_Model_deal_30 a1 a2 0 μ1))) zX0))) zX0
set_option maxRecDepth 100000 in
theorem w_Model_deal (a1 : Int) (a2 : Int) (μ : ZMem) : AW cf_Model_deal S_Model.length S_Model S_Model 0 [(0, zR (some 0)), (1, zI a1), (2, zI a2)] [] μ 0 0 (F_Model_deal a1 a2 μ) := by
  unfold F_Model_deal
  refine AW.aload_n (i := 0) (a := 0) (by decide +kernel) rfl (?_ : AW _ _ _ _ 1 _ _ _ _ _ _)
  refine AW.aload_n (i := 0) (a := 0) (by decide +kernel) rfl (?_ : AW _ _ _ _ 2 _ _ _ _ _ _)
  refine AW.iload_n (i := 1) (a := a1) (by decide +kernel) rfl (?_ : AW _ _ _ _ 3 _ _ _ _ _ _)
  refine AW.callVw (g := cf_Model_isDeal) (av := [zI a1]) (b0 := 0) (ci := 9) (idx := 353) (n := 1) (st := [zR (some 0)]) (by decide +kernel) (fun l hl r hr => c_Model_isDeal l hl a1 _ r hr) S_Model_wf rfl cal_Model_isDeal rfl (zw4 zm_X9_353 zi_yX9_isDeal zs_yX9_isDeal zn_X9) rfl rfl ⟨by decide, by decide, by decide, by decide⟩ (Nat.le_of_ble_eq_true rfl) (Or.inl rfl) (fun v μ1 => AW.kI (fun x2 => (?_ : AW _ _ _ _ 6 _ _ _ _ _ _)) v)
  refine AW.if_ne (off := 7) (tgt := 13) (by decide +kernel) (by decide) (fun _ => ?_) (fun _ => ?_)
  · refine AW.iconst (n := 1) (by decide +kernel) (?_ : AW _ _ _ _ 10 _ _ _ _ _ _)
    refine AW.goto (off := 20) (tgt := 30) (by decide +kernel) (by decide) ?_
    exact j_Model_deal_30 a1 a2 1 μ1
  · refine AW.iload_n (i := 2) (a := a2) (by decide +kernel) rfl (?_ : AW _ _ _ _ 14 _ _ _ _ _ _)
    refine AW.i2l (by decide +kernel) (?_ : AW _ _ _ _ 15 _ _ _ _ _ _)
    refine AW.lconst0 (by decide +kernel) (?_ : AW _ _ _ _ 16 _ _ _ _ _ _)
    refine AW.ldc2 (idx := 356) (v := 4) (by decide +kernel) zk_X9_356 (?_ : AW _ _ _ _ 19 _ _ _ _ _ _)
    refine AW.callP (g := cf_Model_isIn) (av := [zJ (w32 a2), zJ 0, zJ 4]) (idx := 99) (n := 3) (st := [zR (some 0)]) (by decide +kernel) (fun l hl r hr => c_Model_isIn l hl (w32 a2) 0 4 _ r hr) rfl cal_Model_isIn rfl (zw3 zm_X9_99 zt_yX9_isIn zn_X9) ⟨by decide, by decide, by decide, by decide⟩ (Nat.le_of_ble_eq_true rfl) (fun v _ => AW.kI (fun x9 => (?_ : AW _ _ _ _ 22 _ _ _ _ _ _)) v)
    refine AW.if_ne (off := 7) (tgt := 29) (by decide +kernel) (by decide) (fun _ => ?_) (fun _ => ?_)
    · refine AW.iconst (n := 2) (by decide +kernel) (?_ : AW _ _ _ _ 26 _ _ _ _ _ _)
      refine AW.goto (off := 4) (tgt := 30) (by decide +kernel) (by decide) ?_
      exact j_Model_deal_30 a1 a2 2 μ1
    · refine AW.iconst (n := 0) (by decide +kernel) (?_ : AW _ _ _ _ 30 _ _ _ _ _ _)
      exact j_Model_deal_30 a1 a2 0 μ1
theorem c_Model_deal (l : Launch) (hl : l.stackTraces = false) (a1 : Int) (a2 : Int) (μ : ZMem) (r : ZRes) (h : F_Model_deal a1 a2 μ = some r) : ZC l cf_Model_deal S_Model S_Model [zR (some 0), zI a1, zI a2] μ r := ZC.of hl (by decide +kernel) rfl rfl zft_X9_ok (Nat.le_of_ble_eq_true rfl) h (w_Model_deal a1 a2 μ)
/-! WeirLedgerModel.ladder(II)J -/
def cf_Model_ladder : ZCf := (yX9_ladder, cX9_ladder, 3, some .long, [], 3, 0, 0, zft_X9, none)
theorem cal_Model_ladder : zCallee cf_Model_ladder 2 := ⟨rfl, zc_yX9_ladder, by decide, by decide, by decide +kernel⟩
def J_Model_ladder_40 (a1 : Int) (a2 : Int) (y0 : Int) (μ : ZMem) : Option ZRes := zLet (zUp μ 0 0 y0) (fun μ3 => if w32 (μ3 0 0) ≤ 0 then (if w32 a1 = (-2) then (zC (F_Model_ladderAt 1 a2 μ3) (zkI (fun x7 _ => zRd μ3 5 92 x7 (fun x8 => some (.inr (some (zJ x8)), μ3)))) zX0) else (if w32 a1 = (-1) then (zC (F_Model_ladderAt 0 a2 μ3) (zkI (fun x12 _ => zRd μ3 5 92 x12 (fun x13 => some (.inr (some (zJ x13)), μ3)))) zX0) else (zC (F_Model_ladderAt (2 + a1) a2 μ3) (zkI (fun x15 _ => zRd μ3 5 92 x15 (fun x16 => some (.inr (some (zJ x16)), μ3)))) zX0))) else (some (.inr (some (zJ 0)), μ3)))
set_option maxRecDepth 100000 in
theorem j_Model_ladder_40 (a1 : Int) (a2 : Int) (y0 : Int) (μ : ZMem) : AW cf_Model_ladder S_Model.length S_Model S_Model 40 [(0, zR (some 0)), (1, zI a1), (2, zI a2)] [zI y0, zR (some 0)] μ 0 0 (J_Model_ladder_40 a1 a2 y0 μ) := by
  unfold J_Model_ladder_40
  refine AW.putiL (idx := 93) (ci := 9) (k := 0) (r := 0) (by decide +kernel) rfl rfl rfl (fun μ3 => (?_ : AW _ _ _ _ 43 _ _ _ _ _ _))
  refine AW.aload_n (i := 0) (a := 0) (by decide +kernel) rfl (?_ : AW _ _ _ _ 44 _ _ _ _ _ _)
  refine AW.getI (idx := 93) (ci := 9) (k := 0) (r := 0) (by decide +kernel) rfl rfl rfl (?_ : AW _ _ _ _ 47 _ _ _ _ _ _)
  refine AW.if_le (off := 5) (tgt := 52) (by decide +kernel) (by decide) (fun _ => ?_) (fun _ => ?_)
  · refine AW.iload_n (i := 1) (a := a1) (by decide +kernel) rfl (?_ : AW _ _ _ _ 53 _ _ _ _ _ _)
    refine AW.two' (cnd := w32 a1 = (-2)) (fun h5 => ?_) (fun h4 => ?_)
    · refine AW.lsw (dflt := 49) (ps := #[(-2, 38), (-1, 27)]) (len := 27) (off := 38) (tgt := 91) (by decide +kernel) (by decide) (zofs_hit h5) (by decide) ?_
      refine AW.aload_n (i := 0) (a := 0) (by decide +kernel) rfl (?_ : AW _ _ _ _ 92 _ _ _ _ _ _)
      refine AW.getR (idx := 22) (ci := 9) (k := 7) (r := 0) (by decide +kernel) rfl rfl rfl (?_ : AW _ _ _ _ 95 _ _ _ _ _ _)
      refine AW.iconst (n := 1) (by decide +kernel) (?_ : AW _ _ _ _ 96 _ _ _ _ _ _)
      refine AW.iload_n (i := 2) (a := a2) (by decide +kernel) rfl (?_ : AW _ _ _ _ 97 _ _ _ _ _ _)
      refine AW.callP (g := cf_Model_ladderAt) (av := [zI 1, zI a2]) (idx := 141) (n := 2) (st := [zR (some 5)]) (by decide +kernel) (fun l hl r hr => c_Model_ladderAt l hl 1 a2 _ r hr) rfl cal_Model_ladderAt rfl (zw3 zm_X9_141 zt_yX9_ladderAt zn_X9) ⟨by decide, by decide, by decide, by decide⟩ (Nat.le_of_ble_eq_true rfl) (fun v _ => AW.kI (fun x7 => (?_ : AW _ _ _ _ 100 _ _ _ _ _ _)) v)
      refine AW.lald (r := 5) (by decide +kernel) rfl (fun x8 => (?_ : AW _ _ _ _ 101 _ _ _ _ _ _))
      exact AW.retl (by decide +kernel) rfl (by decide) (by decide)
    refine AW.two' (cnd := w32 a1 = (-1)) (fun h10 => ?_) (fun h9 => ?_)
    · refine AW.lsw (dflt := 49) (ps := #[(-2, 38), (-1, 27)]) (len := 27) (off := 27) (tgt := 80) (by decide +kernel) (by decide) (zofs_miss h4 (zofs_hit h10)) (by decide) ?_
      refine AW.aload_n (i := 0) (a := 0) (by decide +kernel) rfl (?_ : AW _ _ _ _ 81 _ _ _ _ _ _)
      refine AW.getR (idx := 22) (ci := 9) (k := 7) (r := 0) (by decide +kernel) rfl rfl rfl (?_ : AW _ _ _ _ 84 _ _ _ _ _ _)
      refine AW.iconst (n := 0) (by decide +kernel) (?_ : AW _ _ _ _ 85 _ _ _ _ _ _)
      refine AW.iload_n (i := 2) (a := a2) (by decide +kernel) rfl (?_ : AW _ _ _ _ 86 _ _ _ _ _ _)
      refine AW.callP (g := cf_Model_ladderAt) (av := [zI 0, zI a2]) (idx := 141) (n := 2) (st := [zR (some 5)]) (by decide +kernel) (fun l hl r hr => c_Model_ladderAt l hl 0 a2 _ r hr) rfl cal_Model_ladderAt rfl (zw3 zm_X9_141 zt_yX9_ladderAt zn_X9) ⟨by decide, by decide, by decide, by decide⟩ (Nat.le_of_ble_eq_true rfl) (fun v _ => AW.kI (fun x12 => (?_ : AW _ _ _ _ 89 _ _ _ _ _ _)) v)
      refine AW.lald (r := 5) (by decide +kernel) rfl (fun x13 => (?_ : AW _ _ _ _ 90 _ _ _ _ _ _))
      exact AW.retl (by decide +kernel) rfl (by decide) (by decide)
    refine AW.lsw (dflt := 49) (ps := #[(-2, 38), (-1, 27)]) (len := 27) (off := 49) (tgt := 102) (by decide +kernel) (by decide) (zofs_miss h4 (zofs_miss h9 (zofs_nil))) (by decide) ?_
    refine AW.aload_n (i := 0) (a := 0) (by decide +kernel) rfl (?_ : AW _ _ _ _ 103 _ _ _ _ _ _)
    refine AW.getR (idx := 22) (ci := 9) (k := 7) (r := 0) (by decide +kernel) rfl rfl rfl (?_ : AW _ _ _ _ 106 _ _ _ _ _ _)
    refine AW.iconst (n := 2) (by decide +kernel) (?_ : AW _ _ _ _ 107 _ _ _ _ _ _)
    refine AW.iload_n (i := 1) (a := a1) (by decide +kernel) rfl (?_ : AW _ _ _ _ 108 _ _ _ _ _ _)
    refine AW.iadd (by decide +kernel) (?_ : AW _ _ _ _ 109 _ _ _ _ _ _)
    refine AW.iload_n (i := 2) (a := a2) (by decide +kernel) rfl (?_ : AW _ _ _ _ 110 _ _ _ _ _ _)
    refine AW.callP (g := cf_Model_ladderAt) (av := [zI (2 + a1), zI a2]) (idx := 141) (n := 2) (st := [zR (some 5)]) (by decide +kernel) (fun l hl r hr => c_Model_ladderAt l hl (2 + a1) a2 _ r hr) rfl cal_Model_ladderAt rfl (zw3 zm_X9_141 zt_yX9_ladderAt zn_X9) ⟨by decide, by decide, by decide, by decide⟩ (Nat.le_of_ble_eq_true rfl) (fun v _ => AW.kI (fun x15 => (?_ : AW _ _ _ _ 113 _ _ _ _ _ _)) v)
    refine AW.lald (r := 5) (by decide +kernel) rfl (fun x16 => (?_ : AW _ _ _ _ 114 _ _ _ _ _ _))
    exact AW.retl (by decide +kernel) rfl (by decide) (by decide)
  · refine AW.lconst0 (by decide +kernel) (?_ : AW _ _ _ _ 51 _ _ _ _ _ _)
    exact AW.retl (by decide +kernel) rfl (by decide) (by decide)
def F_Model_ladder (a1 : Int) (a2 : Int) (μ : ZMem) : Option ZRes := zC (F_Model_isIn (w32 a1) (-2) (w32 ((μ 0 6) - 1)) μ) (zkI (fun x2 _ => if w32 x2 = 0 then (J_Model_ladder_40 a1 a2 1 μ) else (zC (F_Model_isIn (w32 a2) 0 3 μ) (zkI (fun x18 _ => if w32 x18 = 0 then (J_Model_ladder_40 a1 a2 2 μ) else (J_Model_ladder_40 a1 a2 0 μ))) zX0))) zX0
set_option maxRecDepth 100000 in
theorem w_Model_ladder (a1 : Int) (a2 : Int) (μ : ZMem) : AW cf_Model_ladder S_Model.length S_Model S_Model 0 [(0, zR (some 0)), (1, zI a1), (2, zI a2)] [] μ 0 0 (F_Model_ladder a1 a2 μ) := by
  unfold F_Model_ladder
  refine AW.aload_n (i := 0) (a := 0) (by decide +kernel) rfl (?_ : AW _ _ _ _ 1 _ _ _ _ _ _)
  refine AW.iload_n (i := 1) (a := a1) (by decide +kernel) rfl (?_ : AW _ _ _ _ 2 _ _ _ _ _ _)
  refine AW.i2l (by decide +kernel) (?_ : AW _ _ _ _ 3 _ _ _ _ _ _)
  refine AW.ldc2 (idx := 358) (v := -2) (by decide +kernel) zk_X9_358 (?_ : AW _ _ _ _ 6 _ _ _ _ _ _)
  refine AW.aload_n (i := 0) (a := 0) (by decide +kernel) rfl (?_ : AW _ _ _ _ 7 _ _ _ _ _ _)
  refine AW.getI (idx := 103) (ci := 9) (k := 6) (r := 0) (by decide +kernel) rfl rfl rfl (?_ : AW _ _ _ _ 10 _ _ _ _ _ _)
  refine AW.iconst (n := 1) (by decide +kernel) (?_ : AW _ _ _ _ 11 _ _ _ _ _ _)
  refine AW.isub (by decide +kernel) (?_ : AW _ _ _ _ 12 _ _ _ _ _ _)
  refine AW.i2l (by decide +kernel) (?_ : AW _ _ _ _ 13 _ _ _ _ _ _)
  refine AW.callP (g := cf_Model_isIn) (av := [zJ (w32 a1), zJ (-2), zJ (w32 ((μ 0 6) - 1))]) (idx := 99) (n := 3) (st := [zR (some 0)]) (by decide +kernel) (fun l hl r hr => c_Model_isIn l hl (w32 a1) (-2) (w32 ((μ 0 6) - 1)) _ r hr) rfl cal_Model_isIn rfl (zw3 zm_X9_99 zt_yX9_isIn zn_X9) ⟨by decide, by decide, by decide, by decide⟩ (Nat.le_of_ble_eq_true rfl) (fun v _ => AW.kI (fun x2 => (?_ : AW _ _ _ _ 16 _ _ _ _ _ _)) v)
  refine AW.if_ne (off := 7) (tgt := 23) (by decide +kernel) (by decide) (fun _ => ?_) (fun _ => ?_)
  · refine AW.iconst (n := 1) (by decide +kernel) (?_ : AW _ _ _ _ 20 _ _ _ _ _ _)
    refine AW.goto (off := 20) (tgt := 40) (by decide +kernel) (by decide) ?_
    exact j_Model_ladder_40 a1 a2 1 μ
  · refine AW.iload_n (i := 2) (a := a2) (by decide +kernel) rfl (?_ : AW _ _ _ _ 24 _ _ _ _ _ _)
    refine AW.i2l (by decide +kernel) (?_ : AW _ _ _ _ 25 _ _ _ _ _ _)
    refine AW.lconst0 (by decide +kernel) (?_ : AW _ _ _ _ 26 _ _ _ _ _ _)
    refine AW.ldc2 (idx := 360) (v := 3) (by decide +kernel) zk_X9_360 (?_ : AW _ _ _ _ 29 _ _ _ _ _ _)
    refine AW.callP (g := cf_Model_isIn) (av := [zJ (w32 a2), zJ 0, zJ 3]) (idx := 99) (n := 3) (st := [zR (some 0)]) (by decide +kernel) (fun l hl r hr => c_Model_isIn l hl (w32 a2) 0 3 _ r hr) rfl cal_Model_isIn rfl (zw3 zm_X9_99 zt_yX9_isIn zn_X9) ⟨by decide, by decide, by decide, by decide⟩ (Nat.le_of_ble_eq_true rfl) (fun v _ => AW.kI (fun x18 => (?_ : AW _ _ _ _ 32 _ _ _ _ _ _)) v)
    refine AW.if_ne (off := 7) (tgt := 39) (by decide +kernel) (by decide) (fun _ => ?_) (fun _ => ?_)
    · refine AW.iconst (n := 2) (by decide +kernel) (?_ : AW _ _ _ _ 36 _ _ _ _ _ _)
      refine AW.goto (off := 4) (tgt := 40) (by decide +kernel) (by decide) ?_
      exact j_Model_ladder_40 a1 a2 2 μ
    · refine AW.iconst (n := 0) (by decide +kernel) (?_ : AW _ _ _ _ 40 _ _ _ _ _ _)
      exact j_Model_ladder_40 a1 a2 0 μ
theorem c_Model_ladder (l : Launch) (hl : l.stackTraces = false) (a1 : Int) (a2 : Int) (μ : ZMem) (r : ZRes) (h : F_Model_ladder a1 a2 μ = some r) : ZC l cf_Model_ladder S_Model S_Model [zR (some 0), zI a1, zI a2] μ r := ZC.of hl (by decide +kernel) rfl rfl zft_X9_ok (Nat.le_of_ble_eq_true rfl) h (w_Model_ladder a1 a2 μ)
/-! WeirLedgerModel.manager(I)J -/
def cf_Model_manager : ZCf := (yX9_manager, cX9_manager, 2, some .long, [], 3, 0, 0, zft_X9, none)
theorem cal_Model_manager : zCallee cf_Model_manager 1 := ⟨rfl, zc_yX9_manager, by decide, by decide, by decide +kernel⟩
def J_Model_manager_18 (a1 : Int) (y0 : Int) (μ : ZMem) : Option ZRes := zLet (zUp μ 0 0 y0) (fun μ3 => if w32 (μ3 0 0) ≤ 0 then (zRd μ3 5 92 (86 + a1) (fun x4 => some (.inr (some (zJ x4)), μ3))) else (some (.inr (some (zJ 0)), μ3)))
set_option maxRecDepth 100000 in
theorem j_Model_manager_18 (a1 : Int) (y0 : Int) (μ : ZMem) : AW cf_Model_manager S_Model.length S_Model S_Model 18 [(0, zR (some 0)), (1, zI a1)] [zI y0, zR (some 0)] μ 0 0 (J_Model_manager_18 a1 y0 μ) := by
  unfold J_Model_manager_18
  refine AW.putiL (idx := 93) (ci := 9) (k := 0) (r := 0) (by decide +kernel) rfl rfl rfl (fun μ3 => (?_ : AW _ _ _ _ 21 _ _ _ _ _ _))
  refine AW.aload_n (i := 0) (a := 0) (by decide +kernel) rfl (?_ : AW _ _ _ _ 22 _ _ _ _ _ _)
  refine AW.getI (idx := 93) (ci := 9) (k := 0) (r := 0) (by decide +kernel) rfl rfl rfl (?_ : AW _ _ _ _ 25 _ _ _ _ _ _)
  refine AW.if_le (off := 7) (tgt := 32) (by decide +kernel) (by decide) (fun _ => ?_) (fun _ => ?_)
  · refine AW.aload_n (i := 0) (a := 0) (by decide +kernel) rfl (?_ : AW _ _ _ _ 33 _ _ _ _ _ _)
    refine AW.getR (idx := 22) (ci := 9) (k := 7) (r := 0) (by decide +kernel) rfl rfl rfl (?_ : AW _ _ _ _ 36 _ _ _ _ _ _)
    refine AW.bipush (n := 86) (by decide +kernel) (by decide +kernel) (?_ : AW _ _ _ _ 38 _ _ _ _ _ _)
    refine AW.iload_n (i := 1) (a := a1) (by decide +kernel) rfl (?_ : AW _ _ _ _ 39 _ _ _ _ _ _)
    refine AW.iadd (by decide +kernel) (?_ : AW _ _ _ _ 40 _ _ _ _ _ _)
    refine AW.lald (r := 5) (by decide +kernel) rfl (fun x4 => (?_ : AW _ _ _ _ 41 _ _ _ _ _ _))
    exact AW.retl (by decide +kernel) rfl (by decide) (by decide)
  · refine AW.lconst0 (by decide +kernel) (?_ : AW _ _ _ _ 29 _ _ _ _ _ _)
    refine AW.goto (off := 12) (tgt := 41) (by decide +kernel) (by decide) ?_
    exact AW.retl (by decide +kernel) rfl (by decide) (by decide)
def F_Model_manager (a1 : Int) (μ : ZMem) : Option ZRes := zC (F_Model_isIn (w32 a1) 0 3 μ) (zkI (fun x2 _ => if w32 x2 = 0 then (J_Model_manager_18 a1 1 μ) else (J_Model_manager_18 a1 0 μ))) zX0
set_option maxRecDepth 100000 in
theorem w_Model_manager (a1 : Int) (μ : ZMem) : AW cf_Model_manager S_Model.length S_Model S_Model 0 [(0, zR (some 0)), (1, zI a1)] [] μ 0 0 (F_Model_manager a1 μ) := by
  unfold F_Model_manager
  refine AW.aload_n (i := 0) (a := 0) (by decide +kernel) rfl (?_ : AW _ _ _ _ 1 _ _ _ _ _ _)
  refine AW.iload_n (i := 1) (a := a1) (by decide +kernel) rfl (?_ : AW _ _ _ _ 2 _ _ _ _ _ _)
  refine AW.i2l (by decide +kernel) (?_ : AW _ _ _ _ 3 _ _ _ _ _ _)
  refine AW.lconst0 (by decide +kernel) (?_ : AW _ _ _ _ 4 _ _ _ _ _ _)
  refine AW.ldc2 (idx := 360) (v := 3) (by decide +kernel) zk_X9_360 (?_ : AW _ _ _ _ 7 _ _ _ _ _ _)
  refine AW.callP (g := cf_Model_isIn) (av := [zJ (w32 a1), zJ 0, zJ 3]) (idx := 99) (n := 3) (st := [zR (some 0)]) (by decide +kernel) (fun l hl r hr => c_Model_isIn l hl (w32 a1) 0 3 _ r hr) rfl cal_Model_isIn rfl (zw3 zm_X9_99 zt_yX9_isIn zn_X9) ⟨by decide, by decide, by decide, by decide⟩ (Nat.le_of_ble_eq_true rfl) (fun v _ => AW.kI (fun x2 => (?_ : AW _ _ _ _ 10 _ _ _ _ _ _)) v)
  refine AW.if_eq (off := 7) (tgt := 17) (by decide +kernel) (by decide) (fun _ => ?_) (fun _ => ?_)
  · refine AW.iconst (n := 1) (by decide +kernel) (?_ : AW _ _ _ _ 18 _ _ _ _ _ _)
    exact j_Model_manager_18 a1 1 μ
  · refine AW.iconst (n := 0) (by decide +kernel) (?_ : AW _ _ _ _ 14 _ _ _ _ _ _)
    refine AW.goto (off := 4) (tgt := 18) (by decide +kernel) (by decide) ?_
    exact j_Model_manager_18 a1 0 μ
theorem c_Model_manager (l : Launch) (hl : l.stackTraces = false) (a1 : Int) (μ : ZMem) (r : ZRes) (h : F_Model_manager a1 μ = some r) : ZC l cf_Model_manager S_Model S_Model [zR (some 0), zI a1] μ r := ZC.of hl (by decide +kernel) rfl rfl zft_X9_ok (Nat.le_of_ble_eq_true rfl) h (w_Model_manager a1 μ)
/-! WeirLedgerModel.call(II)I -/
def cf_Model_call : ZCf := (yX9_call, cX9_call, 3, some .int, [], 11, 0, 0, zft_X9, none)
theorem cal_Model_call : zCallee cf_Model_call 2 := ⟨rfl, zc_yX9_call, by decide, by decide, by decide +kernel⟩
def J_Model_call_30 (a1 : Int) (a2 : Int) (y0 : Int) (μ : ZMem) : Option ZRes := zLet (zUp μ 0 0 y0) (fun μ3 => if w32 (μ3 0 0) = 0 then (zC (F_Model_acts 0 a1 a2 (-1) 3 μ3) (zkI (fun x5 μ4 => if w32 x5 = 0 then (some (.inr (some (zI 0)), μ4)) else (zC (F_Model_uncalled (-1) μ4) (zkJ (fun x7 μ6 => some (.inr (some (zI x7)), μ6))) zX0))) zX0) else (some (.inr (some (zI 0)), μ3)))
set_option maxRecDepth 100000 in
theorem j_Model_call_30 (a1 : Int) (a2 : Int) (y0 : Int) (μ : ZMem) : AW cf_Model_call S_Model.length S_Model S_Model 30 [(0, zR (some 0)), (1, zI a1), (2, zI a2)] [zI y0, zR (some 0)] μ 0 0 (J_Model_call_30 a1 a2 y0 μ) := by
  unfold J_Model_call_30
  refine AW.putiL (idx := 93) (ci := 9) (k := 0) (r := 0) (by decide +kernel) rfl rfl rfl (fun μ3 => (?_ : AW _ _ _ _ 33 _ _ _ _ _ _))
  refine AW.aload_n (i := 0) (a := 0) (by decide +kernel) rfl (?_ : AW _ _ _ _ 34 _ _ _ _ _ _)
  refine AW.getI (idx := 93) (ci := 9) (k := 0) (r := 0) (by decide +kernel) rfl rfl rfl (?_ : AW _ _ _ _ 37 _ _ _ _ _ _)
  refine AW.if_ne (off := 24) (tgt := 61) (by decide +kernel) (by decide) (fun _ => ?_) (fun _ => ?_)
  · refine AW.aload_n (i := 0) (a := 0) (by decide +kernel) rfl (?_ : AW _ _ _ _ 41 _ _ _ _ _ _)
    refine AW.iconst (n := 0) (by decide +kernel) (?_ : AW _ _ _ _ 42 _ _ _ _ _ _)
    refine AW.iload_n (i := 1) (a := a1) (by decide +kernel) rfl (?_ : AW _ _ _ _ 43 _ _ _ _ _ _)
    refine AW.iload_n (i := 2) (a := a2) (by decide +kernel) rfl (?_ : AW _ _ _ _ 44 _ _ _ _ _ _)
    refine AW.iconst (n := -1) (by decide +kernel) (?_ : AW _ _ _ _ 45 _ _ _ _ _ _)
    refine AW.iconst (n := 3) (by decide +kernel) (?_ : AW _ _ _ _ 46 _ _ _ _ _ _)
    refine AW.callVw (g := cf_Model_acts) (av := [zI 0, zI a1, zI a2, zI (-1), zI 3]) (b0 := 0) (ci := 9) (idx := 362) (n := 5) (st := []) (by decide +kernel) (fun l hl r hr => c_Model_acts l hl 0 a1 a2 (-1) 3 _ r hr) S_Model_wf rfl cal_Model_acts rfl (zw4 zm_X9_362 zi_yX9_acts zs_yX9_acts zn_X9) rfl rfl ⟨by decide, by decide, by decide, by decide⟩ (Nat.le_of_ble_eq_true rfl) (Or.inl rfl) (fun v μ4 => AW.kI (fun x5 => (?_ : AW _ _ _ _ 49 _ _ _ _ _ _)) v)
    refine AW.if_eq (off := 12) (tgt := 61) (by decide +kernel) (by decide) (fun _ => ?_) (fun _ => ?_)
    · refine AW.iconst (n := 0) (by decide +kernel) (?_ : AW _ _ _ _ 62 _ _ _ _ _ _)
      exact AW.reti (by decide +kernel) rfl (by decide) (by decide)
    · refine AW.aload_n (i := 0) (a := 0) (by decide +kernel) rfl (?_ : AW _ _ _ _ 53 _ _ _ _ _ _)
      refine AW.iconst (n := -1) (by decide +kernel) (?_ : AW _ _ _ _ 54 _ _ _ _ _ _)
      refine AW.callVw (g := cf_Model_uncalled) (av := [zI (-1)]) (b0 := 0) (ci := 9) (idx := 184) (n := 1) (st := []) (by decide +kernel) (fun l hl r hr => c_Model_uncalled l hl (-1) _ r hr) S_Model_wf rfl cal_Model_uncalled rfl (zw4 zm_X9_184 zi_yX9_uncalled zs_yX9_uncalled zn_X9) rfl rfl ⟨by decide, by decide, by decide, by decide⟩ (Nat.le_of_ble_eq_true rfl) (Or.inl rfl) (fun v μ6 => AW.kJ (fun x7 => (?_ : AW _ _ _ _ 57 _ _ _ _ _ _)) v)
      refine AW.l2i (by decide +kernel) (?_ : AW _ _ _ _ 58 _ _ _ _ _ _)
      refine AW.goto (off := 4) (tgt := 62) (by decide +kernel) (by decide) ?_
      exact AW.reti (by decide +kernel) rfl (by decide) (by decide)
  · refine AW.iconst (n := 0) (by decide +kernel) (?_ : AW _ _ _ _ 62 _ _ _ _ _ _)
    exact AW.reti (by decide +kernel) rfl (by decide) (by decide)
def F_Model_call (a1 : Int) (a2 : Int) (μ : ZMem) : Option ZRes := zC (F_Model_isDeal a1 μ) (zkI (fun x2 μ1 => if w32 x2 = 0 then (J_Model_call_30 a1 a2 1 μ1) else (zC (F_Model_isIn (w32 a2) 1 9999 μ1) (zkI (fun x9 _ => if w32 x9 = 0 then (J_Model_call_30 a1 a2 2 μ1) else (J_Model_call_30 a1 a2 0 μ1))) zX0))) zX0
set_option maxRecDepth 100000 in
theorem w_Model_call (a1 : Int) (a2 : Int) (μ : ZMem) : AW cf_Model_call S_Model.length S_Model S_Model 0 [(0, zR (some 0)), (1, zI a1), (2, zI a2)] [] μ 0 0 (F_Model_call a1 a2 μ) := by
  unfold F_Model_call
  refine AW.aload_n (i := 0) (a := 0) (by decide +kernel) rfl (?_ : AW _ _ _ _ 1 _ _ _ _ _ _)
  refine AW.aload_n (i := 0) (a := 0) (by decide +kernel) rfl (?_ : AW _ _ _ _ 2 _ _ _ _ _ _)
  refine AW.iload_n (i := 1) (a := a1) (by decide +kernel) rfl (?_ : AW _ _ _ _ 3 _ _ _ _ _ _)
  refine AW.callVw (g := cf_Model_isDeal) (av := [zI a1]) (b0 := 0) (ci := 9) (idx := 353) (n := 1) (st := [zR (some 0)]) (by decide +kernel) (fun l hl r hr => c_Model_isDeal l hl a1 _ r hr) S_Model_wf rfl cal_Model_isDeal rfl (zw4 zm_X9_353 zi_yX9_isDeal zs_yX9_isDeal zn_X9) rfl rfl ⟨by decide, by decide, by decide, by decide⟩ (Nat.le_of_ble_eq_true rfl) (Or.inl rfl) (fun v μ1 => AW.kI (fun x2 => (?_ : AW _ _ _ _ 6 _ _ _ _ _ _)) v)
  refine AW.if_ne (off := 7) (tgt := 13) (by decide +kernel) (by decide) (fun _ => ?_) (fun _ => ?_)
  · refine AW.iconst (n := 1) (by decide +kernel) (?_ : AW _ _ _ _ 10 _ _ _ _ _ _)
    refine AW.goto (off := 20) (tgt := 30) (by decide +kernel) (by decide) ?_
    exact j_Model_call_30 a1 a2 1 μ1
  · refine AW.iload_n (i := 2) (a := a2) (by decide +kernel) rfl (?_ : AW _ _ _ _ 14 _ _ _ _ _ _)
    refine AW.i2l (by decide +kernel) (?_ : AW _ _ _ _ 15 _ _ _ _ _ _)
    refine AW.lconst1 (by decide +kernel) (?_ : AW _ _ _ _ 16 _ _ _ _ _ _)
    refine AW.ldc2 (idx := 218) (v := 9999) (by decide +kernel) zk_X9_218 (?_ : AW _ _ _ _ 19 _ _ _ _ _ _)
    refine AW.callP (g := cf_Model_isIn) (av := [zJ (w32 a2), zJ 1, zJ 9999]) (idx := 99) (n := 3) (st := [zR (some 0)]) (by decide +kernel) (fun l hl r hr => c_Model_isIn l hl (w32 a2) 1 9999 _ r hr) rfl cal_Model_isIn rfl (zw3 zm_X9_99 zt_yX9_isIn zn_X9) ⟨by decide, by decide, by decide, by decide⟩ (Nat.le_of_ble_eq_true rfl) (fun v _ => AW.kI (fun x9 => (?_ : AW _ _ _ _ 22 _ _ _ _ _ _)) v)
    refine AW.if_ne (off := 7) (tgt := 29) (by decide +kernel) (by decide) (fun _ => ?_) (fun _ => ?_)
    · refine AW.iconst (n := 2) (by decide +kernel) (?_ : AW _ _ _ _ 26 _ _ _ _ _ _)
      refine AW.goto (off := 4) (tgt := 30) (by decide +kernel) (by decide) ?_
      exact j_Model_call_30 a1 a2 2 μ1
    · refine AW.iconst (n := 0) (by decide +kernel) (?_ : AW _ _ _ _ 30 _ _ _ _ _ _)
      exact j_Model_call_30 a1 a2 0 μ1
theorem c_Model_call (l : Launch) (hl : l.stackTraces = false) (a1 : Int) (a2 : Int) (μ : ZMem) (r : ZRes) (h : F_Model_call a1 a2 μ = some r) : ZC l cf_Model_call S_Model S_Model [zR (some 0), zI a1, zI a2] μ r := ZC.of hl (by decide +kernel) rfl rfl zft_X9_ok (Nat.le_of_ble_eq_true rfl) h (w_Model_call a1 a2 μ)
/-! WeirLedgerModel.sell(IIZ)I -/
def cf_Model_sell : ZCf := (yX9_sell, cX9_sell, 6, some .int, [], 11, 0, 0, zft_X9, none)
theorem cal_Model_sell : zCallee cf_Model_sell 3 := ⟨rfl, zc_yX9_sell, by decide, by decide, by decide +kernel⟩
def J_Model_sell_59 (a1 : Int) (a2 : Int) (u4 : Int) (y0 : Int) (μ : ZMem) : Option ZRes := zC (F_Model_acts y0 a1 a2 (-1) 3 μ) (zkI (fun x6 μ5 => if w32 x6 = 0 then (some (.inr (some (zI 0)), μ5)) else (zRd μ5 5 92 86 (fun x7 => some (.inr (some (zI (x7 - u4))), μ5))))) zX0
set_option maxRecDepth 100000 in
theorem j_Model_sell_59 (a1 : Int) (a2 : Int) (u4 : Int) (y0 : Int) (μ : ZMem) : AW cf_Model_sell S_Model.length S_Model S_Model 59 [(0, zR (some 0)), (1, zI a1), (2, zI a2), (4, zJ u4)] [zI y0, zR (some 0)] μ 0 0 (J_Model_sell_59 a1 a2 u4 y0 μ) := by
  unfold J_Model_sell_59
  refine AW.iload_n (i := 1) (a := a1) (by decide +kernel) rfl (?_ : AW _ _ _ _ 60 _ _ _ _ _ _)
  refine AW.iload_n (i := 2) (a := a2) (by decide +kernel) rfl (?_ : AW _ _ _ _ 61 _ _ _ _ _ _)
  refine AW.iconst (n := -1) (by decide +kernel) (?_ : AW _ _ _ _ 62 _ _ _ _ _ _)
  refine AW.iconst (n := 3) (by decide +kernel) (?_ : AW _ _ _ _ 63 _ _ _ _ _ _)
  refine AW.callVw (g := cf_Model_acts) (av := [zI y0, zI a1, zI a2, zI (-1), zI 3]) (b0 := 0) (ci := 9) (idx := 362) (n := 5) (st := []) (by decide +kernel) (fun l hl r hr => c_Model_acts l hl y0 a1 a2 (-1) 3 _ r hr) S_Model_wf rfl cal_Model_acts rfl (zw4 zm_X9_362 zi_yX9_acts zs_yX9_acts zn_X9) rfl rfl ⟨by decide, by decide, by decide, by decide⟩ (Nat.le_of_ble_eq_true rfl) (Or.inl rfl) (fun v μ5 => AW.kI (fun x6 => (?_ : AW _ _ _ _ 66 _ _ _ _ _ _)) v)
  refine AW.if_eq (off := 17) (tgt := 83) (by decide +kernel) (by decide) (fun _ => ?_) (fun _ => ?_)
  · refine AW.iconst (n := 0) (by decide +kernel) (?_ : AW _ _ _ _ 84 _ _ _ _ _ _)
    exact AW.reti (by decide +kernel) rfl (by decide) (by decide)
  · refine AW.aload_n (i := 0) (a := 0) (by decide +kernel) rfl (?_ : AW _ _ _ _ 70 _ _ _ _ _ _)
    refine AW.getR (idx := 22) (ci := 9) (k := 7) (r := 0) (by decide +kernel) rfl rfl rfl (?_ : AW _ _ _ _ 73 _ _ _ _ _ _)
    refine AW.bipush (n := 86) (by decide +kernel) (by decide +kernel) (?_ : AW _ _ _ _ 75 _ _ _ _ _ _)
    refine AW.lald (r := 5) (by decide +kernel) rfl (fun x7 => (?_ : AW _ _ _ _ 76 _ _ _ _ _ _))
    refine AW.lload (i := 4) (a := u4) (by decide +kernel) rfl (?_ : AW _ _ _ _ 78 _ _ _ _ _ _)
    refine AW.lsub (by decide +kernel) (?_ : AW _ _ _ _ 79 _ _ _ _ _ _)
    refine AW.l2i (by decide +kernel) (?_ : AW _ _ _ _ 80 _ _ _ _ _ _)
    refine AW.goto (off := 4) (tgt := 84) (by decide +kernel) (by decide) ?_
    exact AW.reti (by decide +kernel) rfl (by decide) (by decide)
def J_Model_sell_30 (a1 : Int) (a2 : Int) (a3 : Int) (y0 : Int) (μ : ZMem) : Option ZRes := zLet (zUp μ 0 0 y0) (fun μ3 => zRd μ3 5 92 86 (fun x4 => if w32 (μ3 0 0) = 0 then (if w32 a3 = 0 then (J_Model_sell_59 a1 a2 x4 1 μ3) else (J_Model_sell_59 a1 a2 x4 2 μ3)) else (some (.inr (some (zI 0)), μ3))))
set_option maxRecDepth 100000 in
theorem j_Model_sell_30 (a1 : Int) (a2 : Int) (a3 : Int) (y0 : Int) (μ : ZMem) : AW cf_Model_sell S_Model.length S_Model S_Model 30 [(0, zR (some 0)), (1, zI a1), (2, zI a2), (3, zI a3)] [zI y0, zR (some 0)] μ 0 0 (J_Model_sell_30 a1 a2 a3 y0 μ) := by
  unfold J_Model_sell_30
  refine AW.putiL (idx := 93) (ci := 9) (k := 0) (r := 0) (by decide +kernel) rfl rfl rfl (fun μ3 => (?_ : AW _ _ _ _ 33 _ _ _ _ _ _))
  refine AW.aload_n (i := 0) (a := 0) (by decide +kernel) rfl (?_ : AW _ _ _ _ 34 _ _ _ _ _ _)
  refine AW.getR (idx := 22) (ci := 9) (k := 7) (r := 0) (by decide +kernel) rfl rfl rfl (?_ : AW _ _ _ _ 37 _ _ _ _ _ _)
  refine AW.bipush (n := 86) (by decide +kernel) (by decide +kernel) (?_ : AW _ _ _ _ 39 _ _ _ _ _ _)
  refine AW.lald (r := 5) (by decide +kernel) rfl (fun x4 => (?_ : AW _ _ _ _ 40 _ _ _ _ _ _))
  refine AW.lstore' (i := 4) (L' := [(4, zJ x4), (0, zR (some 0)), (1, zI a1), (2, zI a2), (3, zI a3)]) (by decide +kernel) (by decide) rfl (?_ : AW _ _ _ _ 42 _ _ _ _ _ _)
  refine AW.aload_n (i := 0) (a := 0) (by decide +kernel) rfl (?_ : AW _ _ _ _ 43 _ _ _ _ _ _)
  refine AW.getI (idx := 93) (ci := 9) (k := 0) (r := 0) (by decide +kernel) rfl rfl rfl (?_ : AW _ _ _ _ 46 _ _ _ _ _ _)
  refine AW.if_ne (off := 37) (tgt := 83) (by decide +kernel) (by decide) (fun _ => ?_) (fun _ => ?_)
  · refine AW.aload_n (i := 0) (a := 0) (by decide +kernel) rfl (?_ : AW _ _ _ _ 50 _ _ _ _ _ _)
    refine AW.iload_n (i := 3) (a := a3) (by decide +kernel) rfl (?_ : AW _ _ _ _ 51 _ _ _ _ _ _)
    refine AW.if_eq (off := 7) (tgt := 58) (by decide +kernel) (by decide) (fun _ => ?_) (fun _ => ?_)
    · refine AW.iconst (n := 1) (by decide +kernel) (?_ : AW _ _ _ _ 59 _ _ _ _ _ _)
      refine AW.sub (L' := [(0, zR (some 0)), (1, zI a1), (2, zI a2), (4, zJ x4)]) [1, 2, 3, 0] rfl ?_
      exact j_Model_sell_59 a1 a2 x4 1 μ3
    · refine AW.iconst (n := 2) (by decide +kernel) (?_ : AW _ _ _ _ 55 _ _ _ _ _ _)
      refine AW.goto (off := 4) (tgt := 59) (by decide +kernel) (by decide) ?_
      refine AW.sub (L' := [(0, zR (some 0)), (1, zI a1), (2, zI a2), (4, zJ x4)]) [1, 2, 3, 0] rfl ?_
      exact j_Model_sell_59 a1 a2 x4 2 μ3
  · refine AW.iconst (n := 0) (by decide +kernel) (?_ : AW _ _ _ _ 84 _ _ _ _ _ _)
    exact AW.reti (by decide +kernel) rfl (by decide) (by decide)
def F_Model_sell (a1 : Int) (a2 : Int) (a3 : Int) (μ : ZMem) : Option ZRes := zC (F_Model_isDeal a1 μ) (zkI (fun x2 μ1 => if w32 x2 = 0 then (J_Model_sell_30 a1 a2 a3 1 μ1) else (zC (F_Model_isIn (w32 a2) 0 9999 μ1) (zkI (fun x9 _ => if w32 x9 = 0 then (J_Model_sell_30 a1 a2 a3 2 μ1) else (J_Model_sell_30 a1 a2 a3 0 μ1))) zX0))) zX0
set_option maxRecDepth 100000 in
theorem w_Model_sell (a1 : Int) (a2 : Int) (a3 : Int) (μ : ZMem) : AW cf_Model_sell S_Model.length S_Model S_Model 0 [(0, zR (some 0)), (1, zI a1), (2, zI a2), (3, zI a3)] [] μ 0 0 (F_Model_sell a1 a2 a3 μ) := by
  unfold F_Model_sell
  refine AW.aload_n (i := 0) (a := 0) (by decide +kernel) rfl (?_ : AW _ _ _ _ 1 _ _ _ _ _ _)
  refine AW.aload_n (i := 0) (a := 0) (by decide +kernel) rfl (?_ : AW _ _ _ _ 2 _ _ _ _ _ _)
  refine AW.iload_n (i := 1) (a := a1) (by decide +kernel) rfl (?_ : AW _ _ _ _ 3 _ _ _ _ _ _)
  refine AW.callVw (g := cf_Model_isDeal) (av := [zI a1]) (b0 := 0) (ci := 9) (idx := 353) (n := 1) (st := [zR (some 0)]) (by decide +kernel) (fun l hl r hr => c_Model_isDeal l hl a1 _ r hr) S_Model_wf rfl cal_Model_isDeal rfl (zw4 zm_X9_353 zi_yX9_isDeal zs_yX9_isDeal zn_X9) rfl rfl ⟨by decide, by decide, by decide, by decide⟩ (Nat.le_of_ble_eq_true rfl) (Or.inl rfl) (fun v μ1 => AW.kI (fun x2 => (?_ : AW _ _ _ _ 6 _ _ _ _ _ _)) v)
  refine AW.if_ne (off := 7) (tgt := 13) (by decide +kernel) (by decide) (fun _ => ?_) (fun _ => ?_)
  · refine AW.iconst (n := 1) (by decide +kernel) (?_ : AW _ _ _ _ 10 _ _ _ _ _ _)
    refine AW.goto (off := 20) (tgt := 30) (by decide +kernel) (by decide) ?_
    exact j_Model_sell_30 a1 a2 a3 1 μ1
  · refine AW.iload_n (i := 2) (a := a2) (by decide +kernel) rfl (?_ : AW _ _ _ _ 14 _ _ _ _ _ _)
    refine AW.i2l (by decide +kernel) (?_ : AW _ _ _ _ 15 _ _ _ _ _ _)
    refine AW.lconst0 (by decide +kernel) (?_ : AW _ _ _ _ 16 _ _ _ _ _ _)
    refine AW.ldc2 (idx := 218) (v := 9999) (by decide +kernel) zk_X9_218 (?_ : AW _ _ _ _ 19 _ _ _ _ _ _)
    refine AW.callP (g := cf_Model_isIn) (av := [zJ (w32 a2), zJ 0, zJ 9999]) (idx := 99) (n := 3) (st := [zR (some 0)]) (by decide +kernel) (fun l hl r hr => c_Model_isIn l hl (w32 a2) 0 9999 _ r hr) rfl cal_Model_isIn rfl (zw3 zm_X9_99 zt_yX9_isIn zn_X9) ⟨by decide, by decide, by decide, by decide⟩ (Nat.le_of_ble_eq_true rfl) (fun v _ => AW.kI (fun x9 => (?_ : AW _ _ _ _ 22 _ _ _ _ _ _)) v)
    refine AW.if_ne (off := 7) (tgt := 29) (by decide +kernel) (by decide) (fun _ => ?_) (fun _ => ?_)
    · refine AW.iconst (n := 2) (by decide +kernel) (?_ : AW _ _ _ _ 26 _ _ _ _ _ _)
      refine AW.goto (off := 4) (tgt := 30) (by decide +kernel) (by decide) ?_
      exact j_Model_sell_30 a1 a2 a3 2 μ1
    · refine AW.iconst (n := 0) (by decide +kernel) (?_ : AW _ _ _ _ 30 _ _ _ _ _ _)
      exact j_Model_sell_30 a1 a2 a3 0 μ1
theorem c_Model_sell (l : Launch) (hl : l.stackTraces = false) (a1 : Int) (a2 : Int) (a3 : Int) (μ : ZMem) (r : ZRes) (h : F_Model_sell a1 a2 a3 μ = some r) : ZC l cf_Model_sell S_Model S_Model [zR (some 0), zI a1, zI a2, zI a3] μ r := ZC.of hl (by decide +kernel) rfl rfl zft_X9_ok (Nat.le_of_ble_eq_true rfl) h (w_Model_sell a1 a2 a3 μ)
/-! WeirLedgerModel.mark(II)I -/
def cf_Model_mark : ZCf := (yX9_mark, cX9_mark, 4, some .int, [], 11, 0, 0, zft_X9, none)
theorem cal_Model_mark : zCallee cf_Model_mark 2 := ⟨rfl, zc_yX9_mark, by decide, by decide, by decide +kernel⟩
def J_Model_mark_30 (a1 : Int) (a2 : Int) (y0 : Int) (μ : ZMem) : Option ZRes := zLet (zUp μ 0 0 y0) (fun μ3 => if w32 (μ3 0 0) ≤ 0 then (zC (F_Model_dealAt a1 2 μ3) (zkI (fun x5 _ => zRd μ3 5 92 x5 (fun x6 => zC (F_Model_acts 3 a1 a2 (-1) 3 μ3) (zkI (fun x8 μ7 => if w32 x8 = 0 then (some (.inr (some (zI 0)), μ7)) else (some (.inr (some (zI x6)), μ7)))) zX0))) zX0) else (some (.inr (some (zI 0)), μ3)))
set_option maxRecDepth 100000 in
theorem j_Model_mark_30 (a1 : Int) (a2 : Int) (y0 : Int) (μ : ZMem) : AW cf_Model_mark S_Model.length S_Model S_Model 30 [(0, zR (some 0)), (1, zI a1), (2, zI a2)] [zI y0, zR (some 0)] μ 0 0 (J_Model_mark_30 a1 a2 y0 μ) := by
  unfold J_Model_mark_30
  refine AW.putiL (idx := 93) (ci := 9) (k := 0) (r := 0) (by decide +kernel) rfl rfl rfl (fun μ3 => (?_ : AW _ _ _ _ 33 _ _ _ _ _ _))
  refine AW.aload_n (i := 0) (a := 0) (by decide +kernel) rfl (?_ : AW _ _ _ _ 34 _ _ _ _ _ _)
  refine AW.getI (idx := 93) (ci := 9) (k := 0) (r := 0) (by decide +kernel) rfl rfl rfl (?_ : AW _ _ _ _ 37 _ _ _ _ _ _)
  refine AW.if_le (off := 5) (tgt := 42) (by decide +kernel) (by decide) (fun _ => ?_) (fun _ => ?_)
  · refine AW.aload_n (i := 0) (a := 0) (by decide +kernel) rfl (?_ : AW _ _ _ _ 43 _ _ _ _ _ _)
    refine AW.getR (idx := 22) (ci := 9) (k := 7) (r := 0) (by decide +kernel) rfl rfl rfl (?_ : AW _ _ _ _ 46 _ _ _ _ _ _)
    refine AW.iload_n (i := 1) (a := a1) (by decide +kernel) rfl (?_ : AW _ _ _ _ 47 _ _ _ _ _ _)
    refine AW.iconst (n := 2) (by decide +kernel) (?_ : AW _ _ _ _ 48 _ _ _ _ _ _)
    refine AW.callP (g := cf_Model_dealAt) (av := [zI a1, zI 2]) (idx := 166) (n := 2) (st := [zR (some 5)]) (by decide +kernel) (fun l hl r hr => c_Model_dealAt l hl a1 2 _ r hr) rfl cal_Model_dealAt rfl (zw3 zm_X9_166 zt_yX9_dealAt zn_X9) ⟨by decide, by decide, by decide, by decide⟩ (Nat.le_of_ble_eq_true rfl) (fun v _ => AW.kI (fun x5 => (?_ : AW _ _ _ _ 51 _ _ _ _ _ _)) v)
    refine AW.lald (r := 5) (by decide +kernel) rfl (fun x6 => (?_ : AW _ _ _ _ 52 _ _ _ _ _ _))
    refine AW.l2i (by decide +kernel) (?_ : AW _ _ _ _ 53 _ _ _ _ _ _)
    refine AW.istore_n' (i := 3) (L' := [(3, zI x6), (0, zR (some 0)), (1, zI a1), (2, zI a2)]) (by decide +kernel) (by decide) rfl (?_ : AW _ _ _ _ 54 _ _ _ _ _ _)
    refine AW.aload_n (i := 0) (a := 0) (by decide +kernel) rfl (?_ : AW _ _ _ _ 55 _ _ _ _ _ _)
    refine AW.iconst (n := 3) (by decide +kernel) (?_ : AW _ _ _ _ 56 _ _ _ _ _ _)
    refine AW.iload_n (i := 1) (a := a1) (by decide +kernel) rfl (?_ : AW _ _ _ _ 57 _ _ _ _ _ _)
    refine AW.iload_n (i := 2) (a := a2) (by decide +kernel) rfl (?_ : AW _ _ _ _ 58 _ _ _ _ _ _)
    refine AW.iconst (n := -1) (by decide +kernel) (?_ : AW _ _ _ _ 59 _ _ _ _ _ _)
    refine AW.iconst (n := 3) (by decide +kernel) (?_ : AW _ _ _ _ 60 _ _ _ _ _ _)
    refine AW.callVw (g := cf_Model_acts) (av := [zI 3, zI a1, zI a2, zI (-1), zI 3]) (b0 := 0) (ci := 9) (idx := 362) (n := 5) (st := []) (by decide +kernel) (fun l hl r hr => c_Model_acts l hl 3 a1 a2 (-1) 3 _ r hr) S_Model_wf rfl cal_Model_acts rfl (zw4 zm_X9_362 zi_yX9_acts zs_yX9_acts zn_X9) rfl rfl ⟨by decide, by decide, by decide, by decide⟩ (Nat.le_of_ble_eq_true rfl) (Or.inl rfl) (fun v μ7 => AW.kI (fun x8 => (?_ : AW _ _ _ _ 63 _ _ _ _ _ _)) v)
    refine AW.if_eq (off := 7) (tgt := 70) (by decide +kernel) (by decide) (fun _ => ?_) (fun _ => ?_)
    · refine AW.iconst (n := 0) (by decide +kernel) (?_ : AW _ _ _ _ 71 _ _ _ _ _ _)
      exact AW.reti (by decide +kernel) rfl (by decide) (by decide)
    · refine AW.iload_n (i := 3) (a := x6) (by decide +kernel) rfl (?_ : AW _ _ _ _ 67 _ _ _ _ _ _)
      refine AW.goto (off := 4) (tgt := 71) (by decide +kernel) (by decide) ?_
      exact AW.reti (by decide +kernel) rfl (by decide) (by decide)
  · refine AW.iconst (n := 0) (by decide +kernel) (?_ : AW _ _ _ _ 41 _ _ _ _ _ _)
    exact AW.reti (by decide +kernel) rfl (by decide) (by decide)
def F_Model_mark (a1 : Int) (a2 : Int) (μ : ZMem) : Option ZRes := zC (F_Model_isDeal a1 μ) (zkI (fun x2 μ1 => if w32 x2 = 0 then (J_Model_mark_30 a1 a2 1 μ1) else (zC (F_Model_isIn (w32 a2) 0 9999 μ1) (zkI (fun x10 _ => if w32 x10 = 0 then (J_Model_mark_30 a1 a2 2 μ1) else (J_Model_mark_30 a1 a2 0 μ1))) zX0))) zX0
set_option maxRecDepth 100000 in
theorem w_Model_mark (a1 : Int) (a2 : Int) (μ : ZMem) : AW cf_Model_mark S_Model.length S_Model S_Model 0 [(0, zR (some 0)), (1, zI a1), (2, zI a2)] [] μ 0 0 (F_Model_mark a1 a2 μ) := by
  unfold F_Model_mark
  refine AW.aload_n (i := 0) (a := 0) (by decide +kernel) rfl (?_ : AW _ _ _ _ 1 _ _ _ _ _ _)
  refine AW.aload_n (i := 0) (a := 0) (by decide +kernel) rfl (?_ : AW _ _ _ _ 2 _ _ _ _ _ _)
  refine AW.iload_n (i := 1) (a := a1) (by decide +kernel) rfl (?_ : AW _ _ _ _ 3 _ _ _ _ _ _)
  refine AW.callVw (g := cf_Model_isDeal) (av := [zI a1]) (b0 := 0) (ci := 9) (idx := 353) (n := 1) (st := [zR (some 0)]) (by decide +kernel) (fun l hl r hr => c_Model_isDeal l hl a1 _ r hr) S_Model_wf rfl cal_Model_isDeal rfl (zw4 zm_X9_353 zi_yX9_isDeal zs_yX9_isDeal zn_X9) rfl rfl ⟨by decide, by decide, by decide, by decide⟩ (Nat.le_of_ble_eq_true rfl) (Or.inl rfl) (fun v μ1 => AW.kI (fun x2 => (?_ : AW _ _ _ _ 6 _ _ _ _ _ _)) v)
  refine AW.if_ne (off := 7) (tgt := 13) (by decide +kernel) (by decide) (fun _ => ?_) (fun _ => ?_)
  · refine AW.iconst (n := 1) (by decide +kernel) (?_ : AW _ _ _ _ 10 _ _ _ _ _ _)
    refine AW.goto (off := 20) (tgt := 30) (by decide +kernel) (by decide) ?_
    exact j_Model_mark_30 a1 a2 1 μ1
  · refine AW.iload_n (i := 2) (a := a2) (by decide +kernel) rfl (?_ : AW _ _ _ _ 14 _ _ _ _ _ _)
    refine AW.i2l (by decide +kernel) (?_ : AW _ _ _ _ 15 _ _ _ _ _ _)
    refine AW.lconst0 (by decide +kernel) (?_ : AW _ _ _ _ 16 _ _ _ _ _ _)
    refine AW.ldc2 (idx := 218) (v := 9999) (by decide +kernel) zk_X9_218 (?_ : AW _ _ _ _ 19 _ _ _ _ _ _)
    refine AW.callP (g := cf_Model_isIn) (av := [zJ (w32 a2), zJ 0, zJ 9999]) (idx := 99) (n := 3) (st := [zR (some 0)]) (by decide +kernel) (fun l hl r hr => c_Model_isIn l hl (w32 a2) 0 9999 _ r hr) rfl cal_Model_isIn rfl (zw3 zm_X9_99 zt_yX9_isIn zn_X9) ⟨by decide, by decide, by decide, by decide⟩ (Nat.le_of_ble_eq_true rfl) (fun v _ => AW.kI (fun x10 => (?_ : AW _ _ _ _ 22 _ _ _ _ _ _)) v)
    refine AW.if_ne (off := 7) (tgt := 29) (by decide +kernel) (by decide) (fun _ => ?_) (fun _ => ?_)
    · refine AW.iconst (n := 2) (by decide +kernel) (?_ : AW _ _ _ _ 26 _ _ _ _ _ _)
      refine AW.goto (off := 4) (tgt := 30) (by decide +kernel) (by decide) ?_
      exact j_Model_mark_30 a1 a2 2 μ1
    · refine AW.iconst (n := 0) (by decide +kernel) (?_ : AW _ _ _ _ 30 _ _ _ _ _ _)
      exact j_Model_mark_30 a1 a2 0 μ1
theorem c_Model_mark (l : Launch) (hl : l.stackTraces = false) (a1 : Int) (a2 : Int) (μ : ZMem) (r : ZRes) (h : F_Model_mark a1 a2 μ = some r) : ZC l cf_Model_mark S_Model S_Model [zR (some 0), zI a1, zI a2] μ r := ZC.of hl (by decide +kernel) rfl rfl zft_X9_ok (Nat.le_of_ble_eq_true rfl) h (w_Model_mark a1 a2 μ)
/-! WeirLedgerModel.quarters(I)I -/
def cf_Model_quarters : ZCf := (yX9_quarters, cX9_quarters, 2, some .int, [], 11, 0, 0, zft_X9, none)
theorem cal_Model_quarters : zCallee cf_Model_quarters 1 := ⟨rfl, zc_yX9_quarters, by decide, by decide, by decide +kernel⟩
def J_Model_quarters_18 (a1 : Int) (y0 : Int) (μ : ZMem) : Option ZRes := zLet (zUp μ 0 0 y0) (fun μ3 => if w32 (μ3 0 0) = 0 then (zC (F_Model_acts 4 (-1) a1 (-1) 2 μ3) (zkI (fun x5 μ4 => if w32 x5 = 0 then (some (.inr (some (zI 0)), μ4)) else (zRd μ4 5 92 90 (fun x6 => some (.inr (some (zI x6)), μ4))))) zX0) else (some (.inr (some (zI 0)), μ3)))
set_option maxRecDepth 100000 in
theorem j_Model_quarters_18 (a1 : Int) (y0 : Int) (μ : ZMem) : AW cf_Model_quarters S_Model.length S_Model S_Model 18 [(0, zR (some 0)), (1, zI a1)] [zI y0, zR (some 0)] μ 0 0 (J_Model_quarters_18 a1 y0 μ) := by
  unfold J_Model_quarters_18
  refine AW.putiL (idx := 93) (ci := 9) (k := 0) (r := 0) (by decide +kernel) rfl rfl rfl (fun μ3 => (?_ : AW _ _ _ _ 21 _ _ _ _ _ _))
  refine AW.aload_n (i := 0) (a := 0) (by decide +kernel) rfl (?_ : AW _ _ _ _ 22 _ _ _ _ _ _)
  refine AW.getI (idx := 93) (ci := 9) (k := 0) (r := 0) (by decide +kernel) rfl rfl rfl (?_ : AW _ _ _ _ 25 _ _ _ _ _ _)
  refine AW.if_ne (off := 26) (tgt := 51) (by decide +kernel) (by decide) (fun _ => ?_) (fun _ => ?_)
  · refine AW.aload_n (i := 0) (a := 0) (by decide +kernel) rfl (?_ : AW _ _ _ _ 29 _ _ _ _ _ _)
    refine AW.iconst (n := 4) (by decide +kernel) (?_ : AW _ _ _ _ 30 _ _ _ _ _ _)
    refine AW.iconst (n := -1) (by decide +kernel) (?_ : AW _ _ _ _ 31 _ _ _ _ _ _)
    refine AW.iload_n (i := 1) (a := a1) (by decide +kernel) rfl (?_ : AW _ _ _ _ 32 _ _ _ _ _ _)
    refine AW.iconst (n := -1) (by decide +kernel) (?_ : AW _ _ _ _ 33 _ _ _ _ _ _)
    refine AW.iconst (n := 2) (by decide +kernel) (?_ : AW _ _ _ _ 34 _ _ _ _ _ _)
    refine AW.callVw (g := cf_Model_acts) (av := [zI 4, zI (-1), zI a1, zI (-1), zI 2]) (b0 := 0) (ci := 9) (idx := 362) (n := 5) (st := []) (by decide +kernel) (fun l hl r hr => c_Model_acts l hl 4 (-1) a1 (-1) 2 _ r hr) S_Model_wf rfl cal_Model_acts rfl (zw4 zm_X9_362 zi_yX9_acts zs_yX9_acts zn_X9) rfl rfl ⟨by decide, by decide, by decide, by decide⟩ (Nat.le_of_ble_eq_true rfl) (Or.inl rfl) (fun v μ4 => AW.kI (fun x5 => (?_ : AW _ _ _ _ 37 _ _ _ _ _ _)) v)
    refine AW.if_eq (off := 14) (tgt := 51) (by decide +kernel) (by decide) (fun _ => ?_) (fun _ => ?_)
    · refine AW.iconst (n := 0) (by decide +kernel) (?_ : AW _ _ _ _ 52 _ _ _ _ _ _)
      exact AW.reti (by decide +kernel) rfl (by decide) (by decide)
    · refine AW.aload_n (i := 0) (a := 0) (by decide +kernel) rfl (?_ : AW _ _ _ _ 41 _ _ _ _ _ _)
      refine AW.getR (idx := 22) (ci := 9) (k := 7) (r := 0) (by decide +kernel) rfl rfl rfl (?_ : AW _ _ _ _ 44 _ _ _ _ _ _)
      refine AW.bipush (n := 90) (by decide +kernel) (by decide +kernel) (?_ : AW _ _ _ _ 46 _ _ _ _ _ _)
      refine AW.lald (r := 5) (by decide +kernel) rfl (fun x6 => (?_ : AW _ _ _ _ 47 _ _ _ _ _ _))
      refine AW.l2i (by decide +kernel) (?_ : AW _ _ _ _ 48 _ _ _ _ _ _)
      refine AW.goto (off := 4) (tgt := 52) (by decide +kernel) (by decide) ?_
      exact AW.reti (by decide +kernel) rfl (by decide) (by decide)
  · refine AW.iconst (n := 0) (by decide +kernel) (?_ : AW _ _ _ _ 52 _ _ _ _ _ _)
    exact AW.reti (by decide +kernel) rfl (by decide) (by decide)
def F_Model_quarters (a1 : Int) (μ : ZMem) : Option ZRes := zC (F_Model_isIn (w32 a1) 1 60 μ) (zkI (fun x2 _ => if w32 x2 = 0 then (J_Model_quarters_18 a1 1 μ) else (J_Model_quarters_18 a1 0 μ))) zX0
set_option maxRecDepth 100000 in
theorem w_Model_quarters (a1 : Int) (μ : ZMem) : AW cf_Model_quarters S_Model.length S_Model S_Model 0 [(0, zR (some 0)), (1, zI a1)] [] μ 0 0 (F_Model_quarters a1 μ) := by
  unfold F_Model_quarters
  refine AW.aload_n (i := 0) (a := 0) (by decide +kernel) rfl (?_ : AW _ _ _ _ 1 _ _ _ _ _ _)
  refine AW.iload_n (i := 1) (a := a1) (by decide +kernel) rfl (?_ : AW _ _ _ _ 2 _ _ _ _ _ _)
  refine AW.i2l (by decide +kernel) (?_ : AW _ _ _ _ 3 _ _ _ _ _ _)
  refine AW.lconst1 (by decide +kernel) (?_ : AW _ _ _ _ 4 _ _ _ _ _ _)
  refine AW.ldc2 (idx := 366) (v := 60) (by decide +kernel) zk_X9_366 (?_ : AW _ _ _ _ 7 _ _ _ _ _ _)
  refine AW.callP (g := cf_Model_isIn) (av := [zJ (w32 a1), zJ 1, zJ 60]) (idx := 99) (n := 3) (st := [zR (some 0)]) (by decide +kernel) (fun l hl r hr => c_Model_isIn l hl (w32 a1) 1 60 _ r hr) rfl cal_Model_isIn rfl (zw3 zm_X9_99 zt_yX9_isIn zn_X9) ⟨by decide, by decide, by decide, by decide⟩ (Nat.le_of_ble_eq_true rfl) (fun v _ => AW.kI (fun x2 => (?_ : AW _ _ _ _ 10 _ _ _ _ _ _)) v)
  refine AW.if_eq (off := 7) (tgt := 17) (by decide +kernel) (by decide) (fun _ => ?_) (fun _ => ?_)
  · refine AW.iconst (n := 1) (by decide +kernel) (?_ : AW _ _ _ _ 18 _ _ _ _ _ _)
    exact j_Model_quarters_18 a1 1 μ
  · refine AW.iconst (n := 0) (by decide +kernel) (?_ : AW _ _ _ _ 14 _ _ _ _ _ _)
    refine AW.goto (off := 4) (tgt := 18) (by decide +kernel) (by decide) ?_
    exact j_Model_quarters_18 a1 0 μ
theorem c_Model_quarters (l : Launch) (hl : l.stackTraces = false) (a1 : Int) (μ : ZMem) (r : ZRes) (h : F_Model_quarters a1 μ = some r) : ZC l cf_Model_quarters S_Model S_Model [zR (some 0), zI a1] μ r := ZC.of hl (by decide +kernel) rfl rfl zft_X9_ok (Nat.le_of_ble_eq_true rfl) h (w_Model_quarters a1 μ)
/-! WeirLedgerModel.fail(I)I -/
def cf_Model_fail : ZCf := (yX9_fail, cX9_fail, 2, some .int, [], 11, 0, 0, zft_X9, none)
theorem cal_Model_fail : zCallee cf_Model_fail 1 := ⟨rfl, zc_yX9_fail, by decide, by decide, by decide +kernel⟩
def J_Model_fail_14 (a1 : Int) (y0 : Int) (μ : ZMem) : Option ZRes := zLet (zUp μ 0 0 y0) (fun μ3 => if w32 (μ3 0 0) = 0 then (zC (F_Model_acts 5 a1 0 (-1) 2 μ3) (zkI (fun x5 μ4 => if w32 x5 = 0 then (some (.inr (some (zI 0)), μ4)) else (zC (F_Model_weightOf a1 μ4) (zkJ (fun x7 μ6 => some (.inr (some (zI x7)), μ6))) zX0))) zX0) else (some (.inr (some (zI 0)), μ3)))
set_option maxRecDepth 100000 in
theorem j_Model_fail_14 (a1 : Int) (y0 : Int) (μ : ZMem) : AW cf_Model_fail S_Model.length S_Model S_Model 14 [(0, zR (some 0)), (1, zI a1)] [zI y0, zR (some 0)] μ 0 0 (J_Model_fail_14 a1 y0 μ) := by
  unfold J_Model_fail_14
  refine AW.putiL (idx := 93) (ci := 9) (k := 0) (r := 0) (by decide +kernel) rfl rfl rfl (fun μ3 => (?_ : AW _ _ _ _ 17 _ _ _ _ _ _))
  refine AW.aload_n (i := 0) (a := 0) (by decide +kernel) rfl (?_ : AW _ _ _ _ 18 _ _ _ _ _ _)
  refine AW.getI (idx := 93) (ci := 9) (k := 0) (r := 0) (by decide +kernel) rfl rfl rfl (?_ : AW _ _ _ _ 21 _ _ _ _ _ _)
  refine AW.if_ne (off := 24) (tgt := 45) (by decide +kernel) (by decide) (fun _ => ?_) (fun _ => ?_)
  · refine AW.aload_n (i := 0) (a := 0) (by decide +kernel) rfl (?_ : AW _ _ _ _ 25 _ _ _ _ _ _)
    refine AW.iconst (n := 5) (by decide +kernel) (?_ : AW _ _ _ _ 26 _ _ _ _ _ _)
    refine AW.iload_n (i := 1) (a := a1) (by decide +kernel) rfl (?_ : AW _ _ _ _ 27 _ _ _ _ _ _)
    refine AW.iconst (n := 0) (by decide +kernel) (?_ : AW _ _ _ _ 28 _ _ _ _ _ _)
    refine AW.iconst (n := -1) (by decide +kernel) (?_ : AW _ _ _ _ 29 _ _ _ _ _ _)
    refine AW.iconst (n := 2) (by decide +kernel) (?_ : AW _ _ _ _ 30 _ _ _ _ _ _)
    refine AW.callVw (g := cf_Model_acts) (av := [zI 5, zI a1, zI 0, zI (-1), zI 2]) (b0 := 0) (ci := 9) (idx := 362) (n := 5) (st := []) (by decide +kernel) (fun l hl r hr => c_Model_acts l hl 5 a1 0 (-1) 2 _ r hr) S_Model_wf rfl cal_Model_acts rfl (zw4 zm_X9_362 zi_yX9_acts zs_yX9_acts zn_X9) rfl rfl ⟨by decide, by decide, by decide, by decide⟩ (Nat.le_of_ble_eq_true rfl) (Or.inl rfl) (fun v μ4 => AW.kI (fun x5 => (?_ : AW _ _ _ _ 33 _ _ _ _ _ _)) v)
    refine AW.if_eq (off := 12) (tgt := 45) (by decide +kernel) (by decide) (fun _ => ?_) (fun _ => ?_)
    · refine AW.iconst (n := 0) (by decide +kernel) (?_ : AW _ _ _ _ 46 _ _ _ _ _ _)
      exact AW.reti (by decide +kernel) rfl (by decide) (by decide)
    · refine AW.aload_n (i := 0) (a := 0) (by decide +kernel) rfl (?_ : AW _ _ _ _ 37 _ _ _ _ _ _)
      refine AW.iload_n (i := 1) (a := a1) (by decide +kernel) rfl (?_ : AW _ _ _ _ 38 _ _ _ _ _ _)
      refine AW.callVw (g := cf_Model_weightOf) (av := [zI a1]) (b0 := 0) (ci := 9) (idx := 129) (n := 1) (st := []) (by decide +kernel) (fun l hl r hr => c_Model_weightOf l hl a1 _ r hr) S_Model_wf rfl cal_Model_weightOf rfl (zw4 zm_X9_129 zi_yX9_weightOf zs_yX9_weightOf zn_X9) rfl rfl ⟨by decide, by decide, by decide, by decide⟩ (Nat.le_of_ble_eq_true rfl) (Or.inl rfl) (fun v μ6 => AW.kJ (fun x7 => (?_ : AW _ _ _ _ 41 _ _ _ _ _ _)) v)
      refine AW.l2i (by decide +kernel) (?_ : AW _ _ _ _ 42 _ _ _ _ _ _)
      refine AW.goto (off := 4) (tgt := 46) (by decide +kernel) (by decide) ?_
      exact AW.reti (by decide +kernel) rfl (by decide) (by decide)
  · refine AW.iconst (n := 0) (by decide +kernel) (?_ : AW _ _ _ _ 46 _ _ _ _ _ _)
    exact AW.reti (by decide +kernel) rfl (by decide) (by decide)
def F_Model_fail (a1 : Int) (μ : ZMem) : Option ZRes := zC (F_Model_isInvestor a1 μ) (zkI (fun x2 μ1 => if w32 x2 = 0 then (J_Model_fail_14 a1 1 μ1) else (J_Model_fail_14 a1 0 μ1))) zX0
set_option maxRecDepth 100000 in
theorem w_Model_fail (a1 : Int) (μ : ZMem) : AW cf_Model_fail S_Model.length S_Model S_Model 0 [(0, zR (some 0)), (1, zI a1)] [] μ 0 0 (F_Model_fail a1 μ) := by
  unfold F_Model_fail
  refine AW.aload_n (i := 0) (a := 0) (by decide +kernel) rfl (?_ : AW _ _ _ _ 1 _ _ _ _ _ _)
  refine AW.aload_n (i := 0) (a := 0) (by decide +kernel) rfl (?_ : AW _ _ _ _ 2 _ _ _ _ _ _)
  refine AW.iload_n (i := 1) (a := a1) (by decide +kernel) rfl (?_ : AW _ _ _ _ 3 _ _ _ _ _ _)
  refine AW.callVw (g := cf_Model_isInvestor) (av := [zI a1]) (b0 := 0) (ci := 9) (idx := 347) (n := 1) (st := [zR (some 0)]) (by decide +kernel) (fun l hl r hr => c_Model_isInvestor l hl a1 _ r hr) S_Model_wf rfl cal_Model_isInvestor rfl (zw4 zm_X9_347 zi_yX9_isInvestor zs_yX9_isInvestor zn_X9) rfl rfl ⟨by decide, by decide, by decide, by decide⟩ (Nat.le_of_ble_eq_true rfl) (Or.inl rfl) (fun v μ1 => AW.kI (fun x2 => (?_ : AW _ _ _ _ 6 _ _ _ _ _ _)) v)
  refine AW.if_eq (off := 7) (tgt := 13) (by decide +kernel) (by decide) (fun _ => ?_) (fun _ => ?_)
  · refine AW.iconst (n := 1) (by decide +kernel) (?_ : AW _ _ _ _ 14 _ _ _ _ _ _)
    exact j_Model_fail_14 a1 1 μ1
  · refine AW.iconst (n := 0) (by decide +kernel) (?_ : AW _ _ _ _ 10 _ _ _ _ _ _)
    refine AW.goto (off := 4) (tgt := 14) (by decide +kernel) (by decide) ?_
    exact j_Model_fail_14 a1 0 μ1
theorem c_Model_fail (l : Launch) (hl : l.stackTraces = false) (a1 : Int) (μ : ZMem) (r : ZRes) (h : F_Model_fail a1 μ = some r) : ZC l cf_Model_fail S_Model S_Model [zR (some 0), zI a1] μ r := ZC.of hl (by decide +kernel) rfl rfl zft_X9_ok (Nat.le_of_ble_eq_true rfl) h (w_Model_fail a1 μ)
/-! WeirLedgerModel.move(III)I -/
def cf_Model_move : ZCf := (yX9_move, cX9_move, 5, some .int, [], 11, 0, 0, zft_X9, none)
theorem cal_Model_move : zCallee cf_Model_move 3 := ⟨rfl, zc_yX9_move, by decide, by decide, by decide +kernel⟩
def J_Model_move_43 (a1 : Int) (a2 : Int) (a3 : Int) (y0 : Int) (μ : ZMem) : Option ZRes := zLet (zUp μ 0 0 y0) (fun μ3 => if w32 (μ3 0 0) ≤ 0 then (zC (F_Model_movedBy a1 a3 μ3) (zkJ (fun x5 μ4 => zC (F_Model_acts 7 a1 a3 a2 3 μ4) (zkI (fun x7 μ6 => if w32 x7 = 0 then (some (.inr (some (zI 0)), μ6)) else (some (.inr (some (zI x5)), μ6)))) zX0)) zX0) else (some (.inr (some (zI 0)), μ3)))
set_option maxRecDepth 100000 in
theorem j_Model_move_43 (a1 : Int) (a2 : Int) (a3 : Int) (y0 : Int) (μ : ZMem) : AW cf_Model_move S_Model.length S_Model S_Model 43 [(0, zR (some 0)), (1, zI a1), (2, zI a2), (3, zI a3)] [zI y0, zR (some 0)] μ 0 0 (J_Model_move_43 a1 a2 a3 y0 μ) := by
  unfold J_Model_move_43
  refine AW.putiL (idx := 93) (ci := 9) (k := 0) (r := 0) (by decide +kernel) rfl rfl rfl (fun μ3 => (?_ : AW _ _ _ _ 46 _ _ _ _ _ _))
  refine AW.aload_n (i := 0) (a := 0) (by decide +kernel) rfl (?_ : AW _ _ _ _ 47 _ _ _ _ _ _)
  refine AW.getI (idx := 93) (ci := 9) (k := 0) (r := 0) (by decide +kernel) rfl rfl rfl (?_ : AW _ _ _ _ 50 _ _ _ _ _ _)
  refine AW.if_le (off := 5) (tgt := 55) (by decide +kernel) (by decide) (fun _ => ?_) (fun _ => ?_)
  · refine AW.aload_n (i := 0) (a := 0) (by decide +kernel) rfl (?_ : AW _ _ _ _ 56 _ _ _ _ _ _)
    refine AW.iload_n (i := 1) (a := a1) (by decide +kernel) rfl (?_ : AW _ _ _ _ 57 _ _ _ _ _ _)
    refine AW.iload_n (i := 3) (a := a3) (by decide +kernel) rfl (?_ : AW _ _ _ _ 58 _ _ _ _ _ _)
    refine AW.callVw (g := cf_Model_movedBy) (av := [zI a1, zI a3]) (b0 := 0) (ci := 9) (idx := 200) (n := 2) (st := []) (by decide +kernel) (fun l hl r hr => c_Model_movedBy l hl a1 a3 _ r hr) S_Model_wf rfl cal_Model_movedBy rfl (zw4 zm_X9_200 zi_yX9_movedBy zs_yX9_movedBy zn_X9) rfl rfl ⟨by decide, by decide, by decide, by decide⟩ (Nat.le_of_ble_eq_true rfl) (Or.inl rfl) (fun v μ4 => AW.kJ (fun x5 => (?_ : AW _ _ _ _ 61 _ _ _ _ _ _)) v)
    refine AW.l2i (by decide +kernel) (?_ : AW _ _ _ _ 62 _ _ _ _ _ _)
    refine AW.istore' (i := 4) (L' := [(4, zI x5), (0, zR (some 0)), (1, zI a1), (2, zI a2), (3, zI a3)]) (by decide +kernel) (by decide) rfl (?_ : AW _ _ _ _ 64 _ _ _ _ _ _)
    refine AW.aload_n (i := 0) (a := 0) (by decide +kernel) rfl (?_ : AW _ _ _ _ 65 _ _ _ _ _ _)
    refine AW.bipush (n := 7) (by decide +kernel) (by decide +kernel) (?_ : AW _ _ _ _ 67 _ _ _ _ _ _)
    refine AW.iload_n (i := 1) (a := a1) (by decide +kernel) rfl (?_ : AW _ _ _ _ 68 _ _ _ _ _ _)
    refine AW.iload_n (i := 3) (a := a3) (by decide +kernel) rfl (?_ : AW _ _ _ _ 69 _ _ _ _ _ _)
    refine AW.iload_n (i := 2) (a := a2) (by decide +kernel) rfl (?_ : AW _ _ _ _ 70 _ _ _ _ _ _)
    refine AW.iconst (n := 3) (by decide +kernel) (?_ : AW _ _ _ _ 71 _ _ _ _ _ _)
    refine AW.callVw (g := cf_Model_acts) (av := [zI 7, zI a1, zI a3, zI a2, zI 3]) (b0 := 0) (ci := 9) (idx := 362) (n := 5) (st := []) (by decide +kernel) (fun l hl r hr => c_Model_acts l hl 7 a1 a3 a2 3 _ r hr) S_Model_wf rfl cal_Model_acts rfl (zw4 zm_X9_362 zi_yX9_acts zs_yX9_acts zn_X9) rfl rfl ⟨by decide, by decide, by decide, by decide⟩ (Nat.le_of_ble_eq_true rfl) (Or.inl rfl) (fun v μ6 => AW.kI (fun x7 => (?_ : AW _ _ _ _ 74 _ _ _ _ _ _)) v)
    refine AW.if_eq (off := 8) (tgt := 82) (by decide +kernel) (by decide) (fun _ => ?_) (fun _ => ?_)
    · refine AW.iconst (n := 0) (by decide +kernel) (?_ : AW _ _ _ _ 83 _ _ _ _ _ _)
      exact AW.reti (by decide +kernel) rfl (by decide) (by decide)
    · refine AW.iload (i := 4) (a := x5) (by decide +kernel) rfl (?_ : AW _ _ _ _ 79 _ _ _ _ _ _)
      refine AW.goto (off := 4) (tgt := 83) (by decide +kernel) (by decide) ?_
      exact AW.reti (by decide +kernel) rfl (by decide) (by decide)
  · refine AW.iconst (n := 0) (by decide +kernel) (?_ : AW _ _ _ _ 54 _ _ _ _ _ _)
    exact AW.reti (by decide +kernel) rfl (by decide) (by decide)
def J_Model_move_17 (a1 : Int) (a2 : Int) (a3 : Int) (μ : ZMem) : Option ZRes := J_Model_move_43 a1 a2 a3 1 μ
set_option maxRecDepth 100000 in
theorem j_Model_move_17 (a1 : Int) (a2 : Int) (a3 : Int) (μ : ZMem) : AW cf_Model_move S_Model.length S_Model S_Model 17 [(0, zR (some 0)), (1, zI a1), (2, zI a2), (3, zI a3)] [zR (some 0)] μ 0 0 (J_Model_move_17 a1 a2 a3 μ) := by
  unfold J_Model_move_17
  refine AW.iconst (n := 1) (by decide +kernel) (?_ : AW _ _ _ _ 18 _ _ _ _ _ _)
  refine AW.goto (off := 25) (tgt := 43) (by decide +kernel) (by decide) ?_
  exact j_Model_move_43 a1 a2 a3 1 μ
def J_Model_move_38 (a1 : Int) (a2 : Int) (a3 : Int) (μ : ZMem) : Option ZRes := J_Model_move_43 a1 a2 a3 2 μ
set_option maxRecDepth 100000 in
theorem j_Model_move_38 (a1 : Int) (a2 : Int) (a3 : Int) (μ : ZMem) : AW cf_Model_move S_Model.length S_Model S_Model 38 [(0, zR (some 0)), (1, zI a1), (2, zI a2), (3, zI a3)] [zR (some 0)] μ 0 0 (J_Model_move_38 a1 a2 a3 μ) := by
  unfold J_Model_move_38
  refine AW.iconst (n := 2) (by decide +kernel) (?_ : AW _ _ _ _ 39 _ _ _ _ _ _)
  refine AW.goto (off := 4) (tgt := 43) (by decide +kernel) (by decide) ?_
  exact j_Model_move_43 a1 a2 a3 2 μ
def F_Model_move (a1 : Int) (a2 : Int) (a3 : Int) (μ : ZMem) : Option ZRes := zC (F_Model_isInvestor a1 μ) (zkI (fun x2 μ1 => if w32 x2 = 0 then (J_Model_move_17 a1 a2 a3 μ1) else (zC (F_Model_isInvestor a2 μ1) (zkI (fun x9 μ8 => if w32 x9 = 0 then (J_Model_move_17 a1 a2 a3 μ8) else (if w32 a1 = w32 a2 then (J_Model_move_38 a1 a2 a3 μ8) else (zC (F_Model_isIn (w32 a3) 1 9999 μ8) (zkI (fun x11 _ => if w32 x11 = 0 then (J_Model_move_38 a1 a2 a3 μ8) else (J_Model_move_43 a1 a2 a3 0 μ8))) zX0)))) zX0))) zX0
set_option maxRecDepth 100000 in
theorem w_Model_move (a1 : Int) (a2 : Int) (a3 : Int) (μ : ZMem) : AW cf_Model_move S_Model.length S_Model S_Model 0 [(0, zR (some 0)), (1, zI a1), (2, zI a2), (3, zI a3)] [] μ 0 0 (F_Model_move a1 a2 a3 μ) := by
  unfold F_Model_move
  refine AW.aload_n (i := 0) (a := 0) (by decide +kernel) rfl (?_ : AW _ _ _ _ 1 _ _ _ _ _ _)
  refine AW.aload_n (i := 0) (a := 0) (by decide +kernel) rfl (?_ : AW _ _ _ _ 2 _ _ _ _ _ _)
  refine AW.iload_n (i := 1) (a := a1) (by decide +kernel) rfl (?_ : AW _ _ _ _ 3 _ _ _ _ _ _)
  refine AW.callVw (g := cf_Model_isInvestor) (av := [zI a1]) (b0 := 0) (ci := 9) (idx := 347) (n := 1) (st := [zR (some 0)]) (by decide +kernel) (fun l hl r hr => c_Model_isInvestor l hl a1 _ r hr) S_Model_wf rfl cal_Model_isInvestor rfl (zw4 zm_X9_347 zi_yX9_isInvestor zs_yX9_isInvestor zn_X9) rfl rfl ⟨by decide, by decide, by decide, by decide⟩ (Nat.le_of_ble_eq_true rfl) (Or.inl rfl) (fun v μ1 => AW.kI (fun x2 => (?_ : AW _ _ _ _ 6 _ _ _ _ _ _)) v)
  refine AW.if_eq (off := 11) (tgt := 17) (by decide +kernel) (by decide) (fun _ => ?_) (fun _ => ?_)
  · exact j_Model_move_17 a1 a2 a3 μ1
  · refine AW.aload_n (i := 0) (a := 0) (by decide +kernel) rfl (?_ : AW _ _ _ _ 10 _ _ _ _ _ _)
    refine AW.iload_n (i := 2) (a := a2) (by decide +kernel) rfl (?_ : AW _ _ _ _ 11 _ _ _ _ _ _)
    refine AW.callVw (g := cf_Model_isInvestor) (av := [zI a2]) (b0 := 0) (ci := 9) (idx := 347) (n := 1) (st := [zR (some 0)]) (by decide +kernel) (fun l hl r hr => c_Model_isInvestor l hl a2 _ r hr) S_Model_wf rfl cal_Model_isInvestor rfl (zw4 zm_X9_347 zi_yX9_isInvestor zs_yX9_isInvestor zn_X9) rfl rfl ⟨by decide, by decide, by decide, by decide⟩ (Nat.le_of_ble_eq_true rfl) (Or.inl rfl) (fun v μ8 => AW.kI (fun x9 => (?_ : AW _ _ _ _ 14 _ _ _ _ _ _)) v)
    refine AW.if_ne (off := 7) (tgt := 21) (by decide +kernel) (by decide) (fun _ => ?_) (fun _ => ?_)
    · exact j_Model_move_17 a1 a2 a3 μ8
    · refine AW.iload_n (i := 1) (a := a1) (by decide +kernel) rfl (?_ : AW _ _ _ _ 22 _ _ _ _ _ _)
      refine AW.iload_n (i := 2) (a := a2) (by decide +kernel) rfl (?_ : AW _ _ _ _ 23 _ _ _ _ _ _)
      refine AW.icmp_eq (off := 15) (tgt := 38) (by decide +kernel) (by decide) (fun _ => ?_) (fun _ => ?_)
      · exact j_Model_move_38 a1 a2 a3 μ8
      · refine AW.iload_n (i := 3) (a := a3) (by decide +kernel) rfl (?_ : AW _ _ _ _ 27 _ _ _ _ _ _)
        refine AW.i2l (by decide +kernel) (?_ : AW _ _ _ _ 28 _ _ _ _ _ _)
        refine AW.lconst1 (by decide +kernel) (?_ : AW _ _ _ _ 29 _ _ _ _ _ _)
        refine AW.ldc2 (idx := 218) (v := 9999) (by decide +kernel) zk_X9_218 (?_ : AW _ _ _ _ 32 _ _ _ _ _ _)
        refine AW.callP (g := cf_Model_isIn) (av := [zJ (w32 a3), zJ 1, zJ 9999]) (idx := 99) (n := 3) (st := [zR (some 0)]) (by decide +kernel) (fun l hl r hr => c_Model_isIn l hl (w32 a3) 1 9999 _ r hr) rfl cal_Model_isIn rfl (zw3 zm_X9_99 zt_yX9_isIn zn_X9) ⟨by decide, by decide, by decide, by decide⟩ (Nat.le_of_ble_eq_true rfl) (fun v _ => AW.kI (fun x11 => (?_ : AW _ _ _ _ 35 _ _ _ _ _ _)) v)
        refine AW.if_ne (off := 7) (tgt := 42) (by decide +kernel) (by decide) (fun _ => ?_) (fun _ => ?_)
        · exact j_Model_move_38 a1 a2 a3 μ8
        · refine AW.iconst (n := 0) (by decide +kernel) (?_ : AW _ _ _ _ 43 _ _ _ _ _ _)
          exact j_Model_move_43 a1 a2 a3 0 μ8
theorem c_Model_move (l : Launch) (hl : l.stackTraces = false) (a1 : Int) (a2 : Int) (a3 : Int) (μ : ZMem) (r : ZRes) (h : F_Model_move a1 a2 a3 μ = some r) : ZC l cf_Model_move S_Model S_Model [zR (some 0), zI a1, zI a2, zI a3] μ r := ZC.of hl (by decide +kernel) rfl rfl zft_X9_ok (Nat.le_of_ble_eq_true rfl) h (w_Model_move a1 a2 a3 μ)
/-! WeirLedgerModel.close()J -/
def cf_Model_close : ZCf := (yX9_close, cX9_close, 1, some .long, [], 11, 0, 0, zft_X9, none)
theorem cal_Model_close : zCallee cf_Model_close 0 := ⟨rfl, zc_yX9_close, by decide, by decide, by decide +kernel⟩
def F_Model_close (μ : ZMem) : Option ZRes := zC (F_Model_acts 6 (-1) 0 (-1) 1 μ) (zkI (fun x2 μ1 => if w32 x2 = 0 then (some (.inr (some (zJ 0)), μ1)) else (zRd μ1 5 92 89 (fun x3 => some (.inr (some (zJ x3)), μ1))))) zX0
set_option maxRecDepth 100000 in
theorem w_Model_close (μ : ZMem) : AW cf_Model_close S_Model.length S_Model S_Model 0 [(0, zR (some 0))] [] μ 0 0 (F_Model_close μ) := by
  unfold F_Model_close
  refine AW.aload_n (i := 0) (a := 0) (by decide +kernel) rfl (?_ : AW _ _ _ _ 1 _ _ _ _ _ _)
  refine AW.bipush (n := 6) (by decide +kernel) (by decide +kernel) (?_ : AW _ _ _ _ 3 _ _ _ _ _ _)
  refine AW.iconst (n := -1) (by decide +kernel) (?_ : AW _ _ _ _ 4 _ _ _ _ _ _)
  refine AW.iconst (n := 0) (by decide +kernel) (?_ : AW _ _ _ _ 5 _ _ _ _ _ _)
  refine AW.iconst (n := -1) (by decide +kernel) (?_ : AW _ _ _ _ 6 _ _ _ _ _ _)
  refine AW.iconst (n := 1) (by decide +kernel) (?_ : AW _ _ _ _ 7 _ _ _ _ _ _)
  refine AW.callVw (g := cf_Model_acts) (av := [zI 6, zI (-1), zI 0, zI (-1), zI 1]) (b0 := 0) (ci := 9) (idx := 362) (n := 5) (st := []) (by decide +kernel) (fun l hl r hr => c_Model_acts l hl 6 (-1) 0 (-1) 1 _ r hr) S_Model_wf rfl cal_Model_acts rfl (zw4 zm_X9_362 zi_yX9_acts zs_yX9_acts zn_X9) rfl rfl ⟨by decide, by decide, by decide, by decide⟩ (Nat.le_of_ble_eq_true rfl) (Or.inl rfl) (fun v μ1 => AW.kI (fun x2 => (?_ : AW _ _ _ _ 10 _ _ _ _ _ _)) v)
  refine AW.if_eq (off := 13) (tgt := 23) (by decide +kernel) (by decide) (fun _ => ?_) (fun _ => ?_)
  · refine AW.lconst0 (by decide +kernel) (?_ : AW _ _ _ _ 24 _ _ _ _ _ _)
    exact AW.retl (by decide +kernel) rfl (by decide) (by decide)
  · refine AW.aload_n (i := 0) (a := 0) (by decide +kernel) rfl (?_ : AW _ _ _ _ 14 _ _ _ _ _ _)
    refine AW.getR (idx := 22) (ci := 9) (k := 7) (r := 0) (by decide +kernel) rfl rfl rfl (?_ : AW _ _ _ _ 17 _ _ _ _ _ _)
    refine AW.bipush (n := 89) (by decide +kernel) (by decide +kernel) (?_ : AW _ _ _ _ 19 _ _ _ _ _ _)
    refine AW.lald (r := 5) (by decide +kernel) rfl (fun x3 => (?_ : AW _ _ _ _ 20 _ _ _ _ _ _))
    refine AW.goto (off := 4) (tgt := 24) (by decide +kernel) (by decide) ?_
    exact AW.retl (by decide +kernel) rfl (by decide) (by decide)
theorem c_Model_close (l : Launch) (hl : l.stackTraces = false) (μ : ZMem) (r : ZRes) (h : F_Model_close μ = some r) : ZC l cf_Model_close S_Model S_Model [zR (some 0)] μ r := ZC.of hl (by decide +kernel) rfl rfl zft_X9_ok (Nat.le_of_ble_eq_true rfl) h (w_Model_close μ)
/-! WeirLedgerModel.undo()I -/
def cf_Model_undo : ZCf := (yX9_undo, cX9_undo, 1, some .int, [], 10, 0, 0, zft_X9, none)
theorem cal_Model_undo : zCallee cf_Model_undo 0 := ⟨rfl, zc_yX9_undo, by decide, by decide, by decide +kernel⟩
def J_Model_undo_13 (y0 : Int) (μ : ZMem) : Option ZRes := zLet (zUp μ 0 0 y0) (fun μ1 => if w32 (μ1 0 0) ≤ 0 then (zLet (zUp μ1 0 11 ((μ1 0 11) - 1)) (fun μ2 => zC (F_Model_worksOut  μ2) (zkV (fun μ3 => some (.inr (some (zI (μ3 0 11))), μ3))) zX0)) else (some (.inr (some (zI 0)), μ1)))
set_option maxRecDepth 100000 in
theorem j_Model_undo_13 (y0 : Int) (μ : ZMem) : AW cf_Model_undo S_Model.length S_Model S_Model 13 [(0, zR (some 0))] [zI y0, zR (some 0)] μ 0 0 (J_Model_undo_13 y0 μ) := by
  unfold J_Model_undo_13
  refine AW.putiL (idx := 93) (ci := 9) (k := 0) (r := 0) (by decide +kernel) rfl rfl rfl (fun μ1 => (?_ : AW _ _ _ _ 16 _ _ _ _ _ _))
  refine AW.aload_n (i := 0) (a := 0) (by decide +kernel) rfl (?_ : AW _ _ _ _ 17 _ _ _ _ _ _)
  refine AW.getI (idx := 93) (ci := 9) (k := 0) (r := 0) (by decide +kernel) rfl rfl rfl (?_ : AW _ _ _ _ 20 _ _ _ _ _ _)
  refine AW.if_le (off := 5) (tgt := 25) (by decide +kernel) (by decide) (fun _ => ?_) (fun _ => ?_)
  · refine AW.aload_n (i := 0) (a := 0) (by decide +kernel) rfl (?_ : AW _ _ _ _ 26 _ _ _ _ _ _)
    refine AW.dup (by decide +kernel) rfl (?_ : AW _ _ _ _ 27 _ _ _ _ _ _)
    refine AW.getI (idx := 116) (ci := 9) (k := 11) (r := 0) (by decide +kernel) rfl rfl rfl (?_ : AW _ _ _ _ 30 _ _ _ _ _ _)
    refine AW.iconst (n := 1) (by decide +kernel) (?_ : AW _ _ _ _ 31 _ _ _ _ _ _)
    refine AW.isub (by decide +kernel) (?_ : AW _ _ _ _ 32 _ _ _ _ _ _)
    refine AW.putiL (idx := 116) (ci := 9) (k := 11) (r := 0) (by decide +kernel) rfl rfl rfl (fun μ2 => (?_ : AW _ _ _ _ 35 _ _ _ _ _ _))
    refine AW.aload_n (i := 0) (a := 0) (by decide +kernel) rfl (?_ : AW _ _ _ _ 36 _ _ _ _ _ _)
    refine AW.callVw (g := cf_Model_worksOut) (av := []) (b0 := 0) (ci := 9) (idx := 342) (n := 0) (st := []) (by decide +kernel) (fun l hl r hr => c_Model_worksOut l hl  _ r hr) S_Model_wf rfl cal_Model_worksOut rfl (zw4 zm_X9_342 zi_yX9_worksOut zs_yX9_worksOut zn_X9) rfl rfl ⟨by decide, by decide, by decide, by decide⟩ (Nat.le_of_ble_eq_true rfl) (Or.inl rfl) (fun v μ3 => AW.kV (?_ : AW _ _ _ _ 39 _ _ _ _ _ _) v)
    refine AW.aload_n (i := 0) (a := 0) (by decide +kernel) rfl (?_ : AW _ _ _ _ 40 _ _ _ _ _ _)
    refine AW.getI (idx := 116) (ci := 9) (k := 11) (r := 0) (by decide +kernel) rfl rfl rfl (?_ : AW _ _ _ _ 43 _ _ _ _ _ _)
    exact AW.reti (by decide +kernel) rfl (by decide) (by decide)
  · refine AW.iconst (n := 0) (by decide +kernel) (?_ : AW _ _ _ _ 24 _ _ _ _ _ _)
    exact AW.reti (by decide +kernel) rfl (by decide) (by decide)
def F_Model_undo (μ : ZMem) : Option ZRes := if w32 (μ 0 11) = 0 then (J_Model_undo_13 1 μ) else (J_Model_undo_13 0 μ)
set_option maxRecDepth 100000 in
theorem w_Model_undo (μ : ZMem) : AW cf_Model_undo S_Model.length S_Model S_Model 0 [(0, zR (some 0))] [] μ 0 0 (F_Model_undo μ) := by
  unfold F_Model_undo
  refine AW.aload_n (i := 0) (a := 0) (by decide +kernel) rfl (?_ : AW _ _ _ _ 1 _ _ _ _ _ _)
  refine AW.aload_n (i := 0) (a := 0) (by decide +kernel) rfl (?_ : AW _ _ _ _ 2 _ _ _ _ _ _)
  refine AW.getI (idx := 116) (ci := 9) (k := 11) (r := 0) (by decide +kernel) rfl rfl rfl (?_ : AW _ _ _ _ 5 _ _ _ _ _ _)
  refine AW.if_ne (off := 7) (tgt := 12) (by decide +kernel) (by decide) (fun _ => ?_) (fun _ => ?_)
  · refine AW.iconst (n := 1) (by decide +kernel) (?_ : AW _ _ _ _ 9 _ _ _ _ _ _)
    refine AW.goto (off := 4) (tgt := 13) (by decide +kernel) (by decide) ?_
    exact j_Model_undo_13 1 μ
  · refine AW.iconst (n := 0) (by decide +kernel) (?_ : AW _ _ _ _ 13 _ _ _ _ _ _)
    exact j_Model_undo_13 0 μ
theorem c_Model_undo (l : Launch) (hl : l.stackTraces = false) (μ : ZMem) (r : ZRes) (h : F_Model_undo μ = some r) : ZC l cf_Model_undo S_Model S_Model [zR (some 0)] μ r := ZC.of hl (by decide +kernel) rfl rfl zft_X9_ok (Nat.le_of_ble_eq_true rfl) h (w_Model_undo μ)
/-! WeirLedgerModel.ladderOf(I)I -/
def cf_Model_ladderOf : ZCf := (yX9_ladderOf, cX9_ladderOf, 2, some .int, [], 3, 0, 0, zft_X9, none)
theorem cal_Model_ladderOf : zCallee cf_Model_ladderOf 1 := ⟨rfl, zc_yX9_ladderOf, by decide, by decide, by decide +kernel⟩
def J_Model_ladderOf_12 (μ : ZMem) : Option ZRes := some (.inr (some (zI 0)), μ)
set_option maxRecDepth 100000 in
theorem j_Model_ladderOf_12 (μ : ZMem) : AW cf_Model_ladderOf S_Model.length S_Model S_Model 12 [] [] μ 0 0 (J_Model_ladderOf_12 μ) := by
  unfold J_Model_ladderOf_12
  refine AW.iconst (n := 0) (by decide +kernel) (?_ : AW _ _ _ _ 13 _ _ _ _ _ _)
  refine AW.goto (off := 6) (tgt := 19) (by decide +kernel) (by decide) ?_
  exact AW.reti (by decide +kernel) rfl (by decide) (by decide)
def F_Model_ladderOf (a1 : Int) (μ : ZMem) : Option ZRes := if w32 a1 = w32 (-1) then (J_Model_ladderOf_12 μ) else (zC (F_Model_isDealwise  μ) (zkI (fun x2 μ1 => if w32 x2 = 0 then (J_Model_ladderOf_12 μ1) else (some (.inr (some (zI (2 + a1))), μ1)))) zX0)
set_option maxRecDepth 100000 in
theorem w_Model_ladderOf (a1 : Int) (μ : ZMem) : AW cf_Model_ladderOf S_Model.length S_Model S_Model 0 [(0, zR (some 0)), (1, zI a1)] [] μ 0 0 (F_Model_ladderOf a1 μ) := by
  unfold F_Model_ladderOf
  refine AW.iload_n (i := 1) (a := a1) (by decide +kernel) rfl (?_ : AW _ _ _ _ 1 _ _ _ _ _ _)
  refine AW.iconst (n := -1) (by decide +kernel) (?_ : AW _ _ _ _ 2 _ _ _ _ _ _)
  refine AW.icmp_eq (off := 10) (tgt := 12) (by decide +kernel) (by decide) (fun _ => ?_) (fun _ => ?_)
  · refine AW.sub (L' := []) [] rfl ?_
    exact j_Model_ladderOf_12 μ
  · refine AW.aload_n (i := 0) (a := 0) (by decide +kernel) rfl (?_ : AW _ _ _ _ 6 _ _ _ _ _ _)
    refine AW.callVw (g := cf_Model_isDealwise) (av := []) (b0 := 0) (ci := 9) (idx := 173) (n := 0) (st := []) (by decide +kernel) (fun l hl r hr => c_Model_isDealwise l hl  _ r hr) S_Model_wf rfl cal_Model_isDealwise rfl (zw4 zm_X9_173 zi_yX9_isDealwise zs_yX9_isDealwise zn_X9) rfl rfl ⟨by decide, by decide, by decide, by decide⟩ (Nat.le_of_ble_eq_true rfl) (Or.inl rfl) (fun v μ1 => AW.kI (fun x2 => (?_ : AW _ _ _ _ 9 _ _ _ _ _ _)) v)
    refine AW.if_ne (off := 7) (tgt := 16) (by decide +kernel) (by decide) (fun _ => ?_) (fun _ => ?_)
    · refine AW.sub (L' := []) [] rfl ?_
      exact j_Model_ladderOf_12 μ1
    · refine AW.iconst (n := 2) (by decide +kernel) (?_ : AW _ _ _ _ 17 _ _ _ _ _ _)
      refine AW.iload_n (i := 1) (a := a1) (by decide +kernel) rfl (?_ : AW _ _ _ _ 18 _ _ _ _ _ _)
      refine AW.iadd (by decide +kernel) (?_ : AW _ _ _ _ 19 _ _ _ _ _ _)
      exact AW.reti (by decide +kernel) rfl (by decide) (by decide)
theorem c_Model_ladderOf (l : Launch) (hl : l.stackTraces = false) (a1 : Int) (μ : ZMem) (r : ZRes) (h : F_Model_ladderOf a1 μ = some r) : ZC l cf_Model_ladderOf S_Model S_Model [zR (some 0), zI a1] μ r := ZC.of hl (by decide +kernel) rfl rfl zft_X9_ok (Nat.le_of_ble_eq_true rfl) h (w_Model_ladderOf a1 μ)
/-! WeirLedgerModel.filling(III)J -/
def cf_Model_filling : ZCf := (yX9_filling, cX9_filling, 4, some .long, [], 5, 0, 0, zft_X9, none)
theorem cal_Model_filling : zCallee cf_Model_filling 3 := ⟨rfl, zc_yX9_filling, by decide, by decide, by decide +kernel⟩
def J_Model_filling_91 (a2 : Int) (a3 : Int) (y0 : Int) (y1 : Int) (μ : ZMem) : Option ZRes := zC (F_Model_fills y1 y0 (w32 a2) μ) (zkV (fun μ10 => zC (F_Model_comesBack  μ10) (zkV (fun μ12 => if w32 a3 = 4 then (some (.inr (some (zJ (μ12 0 35))), μ12)) else (if w32 a3 = 5 then (some (.inr (some (zJ (μ12 0 36))), μ12)) else (zRd μ12 22 4 a3 (fun x18 => some (.inr (some (zJ x18)), μ12)))))) zX0)) zX0
set_option maxRecDepth 100000 in
theorem j_Model_filling_91 (a2 : Int) (a3 : Int) (y0 : Int) (y1 : Int) (μ : ZMem) : AW cf_Model_filling S_Model.length S_Model S_Model 91 [(0, zR (some 0)), (2, zI a2), (3, zI a3)] [zI y0, zI y1, zR (some 0)] μ 0 0 (J_Model_filling_91 a2 a3 y0 y1 μ) := by
  unfold J_Model_filling_91
  refine AW.iload_n (i := 2) (a := a2) (by decide +kernel) rfl (?_ : AW _ _ _ _ 92 _ _ _ _ _ _)
  refine AW.i2l (by decide +kernel) (?_ : AW _ _ _ _ 93 _ _ _ _ _ _)
  refine AW.callVw (g := cf_Model_fills) (av := [zI y1, zI y0, zJ (w32 a2)]) (b0 := 0) (ci := 9) (idx := 169) (n := 3) (st := []) (by decide +kernel) (fun l hl r hr => c_Model_fills l hl y1 y0 (w32 a2) _ r hr) S_Model_wf rfl cal_Model_fills rfl (zw4 zm_X9_169 zi_yX9_fills zs_yX9_fills zn_X9) rfl rfl ⟨by decide, by decide, by decide, by decide⟩ (Nat.le_of_ble_eq_true rfl) (Or.inl rfl) (fun v μ10 => AW.kV (?_ : AW _ _ _ _ 96 _ _ _ _ _ _) v)
  refine AW.aload_n (i := 0) (a := 0) (by decide +kernel) rfl (?_ : AW _ _ _ _ 97 _ _ _ _ _ _)
  refine AW.callVw (g := cf_Model_comesBack) (av := []) (b0 := 0) (ci := 9) (idx := 377) (n := 0) (st := []) (by decide +kernel) (fun l hl r hr => c_Model_comesBack l hl  _ r hr) S_Model_wf rfl cal_Model_comesBack rfl (zw4 zm_X9_377 zi_yX9_comesBack zs_yX9_comesBack zn_X9) rfl rfl ⟨by decide, by decide, by decide, by decide⟩ (Nat.le_of_ble_eq_true rfl) (Or.inl rfl) (fun v μ12 => AW.kV (?_ : AW _ _ _ _ 100 _ _ _ _ _ _) v)
  refine AW.iload_n (i := 3) (a := a3) (by decide +kernel) rfl (?_ : AW _ _ _ _ 101 _ _ _ _ _ _)
  refine AW.two' (cnd := w32 a3 = 4) (fun h15 => ?_) (fun h14 => ?_)
  · refine AW.lsw (dflt := 37) (ps := #[(4, 27), (5, 32)]) (len := 27) (off := 27) (tgt := 128) (by decide +kernel) (by decide) (zofs_hit h15) (by decide) ?_
    refine AW.aload_n (i := 0) (a := 0) (by decide +kernel) rfl (?_ : AW _ _ _ _ 129 _ _ _ _ _ _)
    refine AW.getJ (idx := 159) (ci := 9) (k := 35) (r := 0) (by decide +kernel) rfl rfl rfl (?_ : AW _ _ _ _ 132 _ _ _ _ _ _)
    exact AW.retl (by decide +kernel) rfl (by decide) (by decide)
  refine AW.two' (cnd := w32 a3 = 5) (fun h17 => ?_) (fun h16 => ?_)
  · refine AW.lsw (dflt := 37) (ps := #[(4, 27), (5, 32)]) (len := 27) (off := 32) (tgt := 133) (by decide +kernel) (by decide) (zofs_miss h14 (zofs_hit h17)) (by decide) ?_
    refine AW.aload_n (i := 0) (a := 0) (by decide +kernel) rfl (?_ : AW _ _ _ _ 134 _ _ _ _ _ _)
    refine AW.getJ (idx := 163) (ci := 9) (k := 36) (r := 0) (by decide +kernel) rfl rfl rfl (?_ : AW _ _ _ _ 137 _ _ _ _ _ _)
    exact AW.retl (by decide +kernel) rfl (by decide) (by decide)
  refine AW.lsw (dflt := 37) (ps := #[(4, 27), (5, 32)]) (len := 27) (off := 37) (tgt := 138) (by decide +kernel) (by decide) (zofs_miss h14 (zofs_miss h16 (zofs_nil))) (by decide) ?_
  refine AW.aload_n (i := 0) (a := 0) (by decide +kernel) rfl (?_ : AW _ _ _ _ 139 _ _ _ _ _ _)
  refine AW.getR (idx := 81) (ci := 9) (k := 34) (r := 0) (by decide +kernel) rfl rfl rfl (?_ : AW _ _ _ _ 142 _ _ _ _ _ _)
  refine AW.iload_n (i := 3) (a := a3) (by decide +kernel) rfl (?_ : AW _ _ _ _ 143 _ _ _ _ _ _)
  refine AW.lald (r := 22) (by decide +kernel) rfl (fun x18 => (?_ : AW _ _ _ _ 144 _ _ _ _ _ _))
  exact AW.retl (by decide +kernel) rfl (by decide) (by decide)
def J_Model_filling_56 (a1 : Int) (a2 : Int) (a3 : Int) (y0 : Int) (μ : ZMem) : Option ZRes := zLet (zUp μ 0 0 y0) (fun μ3 => if w32 (μ3 0 0) ≤ 0 then (zC (F_Model_putsAside  μ3) (zkV (fun μ4 => zC (F_Model_ladderOf a1 μ4) (zkI (fun x7 μ6 => zC (F_Model_ladderOf a1 μ6) (zkI (fun x9 μ8 => if w32 x9 ≤ 0 then (J_Model_filling_91 a2 a3 0 x7 μ8) else (J_Model_filling_91 a2 a3 1 x7 μ8))) zX0)) zX0)) zX0) else (some (.inr (some (zJ 0)), μ3)))
set_option maxRecDepth 100000 in
theorem j_Model_filling_56 (a1 : Int) (a2 : Int) (a3 : Int) (y0 : Int) (μ : ZMem) : AW cf_Model_filling S_Model.length S_Model S_Model 56 [(0, zR (some 0)), (1, zI a1), (2, zI a2), (3, zI a3)] [zI y0, zR (some 0)] μ 0 0 (J_Model_filling_56 a1 a2 a3 y0 μ) := by
  unfold J_Model_filling_56
  refine AW.putiL (idx := 93) (ci := 9) (k := 0) (r := 0) (by decide +kernel) rfl rfl rfl (fun μ3 => (?_ : AW _ _ _ _ 59 _ _ _ _ _ _))
  refine AW.aload_n (i := 0) (a := 0) (by decide +kernel) rfl (?_ : AW _ _ _ _ 60 _ _ _ _ _ _)
  refine AW.getI (idx := 93) (ci := 9) (k := 0) (r := 0) (by decide +kernel) rfl rfl rfl (?_ : AW _ _ _ _ 63 _ _ _ _ _ _)
  refine AW.if_le (off := 5) (tgt := 68) (by decide +kernel) (by decide) (fun _ => ?_) (fun _ => ?_)
  · refine AW.aload_n (i := 0) (a := 0) (by decide +kernel) rfl (?_ : AW _ _ _ _ 69 _ _ _ _ _ _)
    refine AW.callVw (g := cf_Model_putsAside) (av := []) (b0 := 0) (ci := 9) (idx := 370) (n := 0) (st := []) (by decide +kernel) (fun l hl r hr => c_Model_putsAside l hl  _ r hr) S_Model_wf rfl cal_Model_putsAside rfl (zw4 zm_X9_370 zi_yX9_putsAside zs_yX9_putsAside zn_X9) rfl rfl ⟨by decide, by decide, by decide, by decide⟩ (Nat.le_of_ble_eq_true rfl) (Or.inl rfl) (fun v μ4 => AW.kV (?_ : AW _ _ _ _ 72 _ _ _ _ _ _) v)
    refine AW.aload_n (i := 0) (a := 0) (by decide +kernel) rfl (?_ : AW _ _ _ _ 73 _ _ _ _ _ _)
    refine AW.aload_n (i := 0) (a := 0) (by decide +kernel) rfl (?_ : AW _ _ _ _ 74 _ _ _ _ _ _)
    refine AW.iload_n (i := 1) (a := a1) (by decide +kernel) rfl (?_ : AW _ _ _ _ 75 _ _ _ _ _ _)
    refine AW.callVw (g := cf_Model_ladderOf) (av := [zI a1]) (b0 := 0) (ci := 9) (idx := 373) (n := 1) (st := [zR (some 0)]) (by decide +kernel) (fun l hl r hr => c_Model_ladderOf l hl a1 _ r hr) S_Model_wf rfl cal_Model_ladderOf rfl (zw4 zm_X9_373 zi_yX9_ladderOf zs_yX9_ladderOf zn_X9) rfl rfl ⟨by decide, by decide, by decide, by decide⟩ (Nat.le_of_ble_eq_true rfl) (Or.inl rfl) (fun v μ6 => AW.kI (fun x7 => (?_ : AW _ _ _ _ 78 _ _ _ _ _ _)) v)
    refine AW.aload_n (i := 0) (a := 0) (by decide +kernel) rfl (?_ : AW _ _ _ _ 79 _ _ _ _ _ _)
    refine AW.iload_n (i := 1) (a := a1) (by decide +kernel) rfl (?_ : AW _ _ _ _ 80 _ _ _ _ _ _)
    refine AW.callVw (g := cf_Model_ladderOf) (av := [zI a1]) (b0 := 0) (ci := 9) (idx := 373) (n := 1) (st := [zI x7, zR (some 0)]) (by decide +kernel) (fun l hl r hr => c_Model_ladderOf l hl a1 _ r hr) S_Model_wf rfl cal_Model_ladderOf rfl (zw4 zm_X9_373 zi_yX9_ladderOf zs_yX9_ladderOf zn_X9) rfl rfl ⟨by decide, by decide, by decide, by decide⟩ (Nat.le_of_ble_eq_true rfl) (Or.inl rfl) (fun v μ8 => AW.kI (fun x9 => (?_ : AW _ _ _ _ 83 _ _ _ _ _ _)) v)
    refine AW.if_le (off := 7) (tgt := 90) (by decide +kernel) (by decide) (fun _ => ?_) (fun _ => ?_)
    · refine AW.iconst (n := 0) (by decide +kernel) (?_ : AW _ _ _ _ 91 _ _ _ _ _ _)
      refine AW.sub (L' := [(0, zR (some 0)), (2, zI a2), (3, zI a3)]) [0, 2, 3] rfl ?_
      exact j_Model_filling_91 a2 a3 0 x7 μ8
    · refine AW.iconst (n := 1) (by decide +kernel) (?_ : AW _ _ _ _ 87 _ _ _ _ _ _)
      refine AW.goto (off := 4) (tgt := 91) (by decide +kernel) (by decide) ?_
      refine AW.sub (L' := [(0, zR (some 0)), (2, zI a2), (3, zI a3)]) [0, 2, 3] rfl ?_
      exact j_Model_filling_91 a2 a3 1 x7 μ8
  · refine AW.lconst0 (by decide +kernel) (?_ : AW _ _ _ _ 67 _ _ _ _ _ _)
    exact AW.retl (by decide +kernel) rfl (by decide) (by decide)
def F_Model_filling (a1 : Int) (a2 : Int) (a3 : Int) (μ : ZMem) : Option ZRes := zC (F_Model_isIn (w32 a1) (-1) (w32 ((μ 0 6) - 1)) μ) (zkI (fun x2 _ => if w32 x2 = 0 then (J_Model_filling_56 a1 a2 a3 1 μ) else (zC (F_Model_isIn (w32 a2) 0 99999 μ) (zkI (fun x20 _ => if w32 x20 = 0 then (J_Model_filling_56 a1 a2 a3 2 μ) else (zC (F_Model_isIn (w32 a3) 0 5 μ) (zkI (fun x22 _ => if w32 x22 = 0 then (J_Model_filling_56 a1 a2 a3 3 μ) else (J_Model_filling_56 a1 a2 a3 0 μ))) zX0))) zX0))) zX0
set_option maxRecDepth 100000 in
theorem w_Model_filling (a1 : Int) (a2 : Int) (a3 : Int) (μ : ZMem) : AW cf_Model_filling S_Model.length S_Model S_Model 0 [(0, zR (some 0)), (1, zI a1), (2, zI a2), (3, zI a3)] [] μ 0 0 (F_Model_filling a1 a2 a3 μ) := by
  unfold F_Model_filling
  refine AW.aload_n (i := 0) (a := 0) (by decide +kernel) rfl (?_ : AW _ _ _ _ 1 _ _ _ _ _ _)
  refine AW.iload_n (i := 1) (a := a1) (by decide +kernel) rfl (?_ : AW _ _ _ _ 2 _ _ _ _ _ _)
  refine AW.i2l (by decide +kernel) (?_ : AW _ _ _ _ 3 _ _ _ _ _ _)
  refine AW.ldc2 (idx := 127) (v := -1) (by decide +kernel) zk_X9_127 (?_ : AW _ _ _ _ 6 _ _ _ _ _ _)
  refine AW.aload_n (i := 0) (a := 0) (by decide +kernel) rfl (?_ : AW _ _ _ _ 7 _ _ _ _ _ _)
  refine AW.getI (idx := 103) (ci := 9) (k := 6) (r := 0) (by decide +kernel) rfl rfl rfl (?_ : AW _ _ _ _ 10 _ _ _ _ _ _)
  refine AW.iconst (n := 1) (by decide +kernel) (?_ : AW _ _ _ _ 11 _ _ _ _ _ _)
  refine AW.isub (by decide +kernel) (?_ : AW _ _ _ _ 12 _ _ _ _ _ _)
  refine AW.i2l (by decide +kernel) (?_ : AW _ _ _ _ 13 _ _ _ _ _ _)
  refine AW.callP (g := cf_Model_isIn) (av := [zJ (w32 a1), zJ (-1), zJ (w32 ((μ 0 6) - 1))]) (idx := 99) (n := 3) (st := [zR (some 0)]) (by decide +kernel) (fun l hl r hr => c_Model_isIn l hl (w32 a1) (-1) (w32 ((μ 0 6) - 1)) _ r hr) rfl cal_Model_isIn rfl (zw3 zm_X9_99 zt_yX9_isIn zn_X9) ⟨by decide, by decide, by decide, by decide⟩ (Nat.le_of_ble_eq_true rfl) (fun v _ => AW.kI (fun x2 => (?_ : AW _ _ _ _ 16 _ _ _ _ _ _)) v)
  refine AW.if_ne (off := 7) (tgt := 23) (by decide +kernel) (by decide) (fun _ => ?_) (fun _ => ?_)
  · refine AW.iconst (n := 1) (by decide +kernel) (?_ : AW _ _ _ _ 20 _ _ _ _ _ _)
    refine AW.goto (off := 36) (tgt := 56) (by decide +kernel) (by decide) ?_
    exact j_Model_filling_56 a1 a2 a3 1 μ
  · refine AW.iload_n (i := 2) (a := a2) (by decide +kernel) rfl (?_ : AW _ _ _ _ 24 _ _ _ _ _ _)
    refine AW.i2l (by decide +kernel) (?_ : AW _ _ _ _ 25 _ _ _ _ _ _)
    refine AW.lconst0 (by decide +kernel) (?_ : AW _ _ _ _ 26 _ _ _ _ _ _)
    refine AW.ldc2 (idx := 368) (v := 99999) (by decide +kernel) zk_X9_368 (?_ : AW _ _ _ _ 29 _ _ _ _ _ _)
    refine AW.callP (g := cf_Model_isIn) (av := [zJ (w32 a2), zJ 0, zJ 99999]) (idx := 99) (n := 3) (st := [zR (some 0)]) (by decide +kernel) (fun l hl r hr => c_Model_isIn l hl (w32 a2) 0 99999 _ r hr) rfl cal_Model_isIn rfl (zw3 zm_X9_99 zt_yX9_isIn zn_X9) ⟨by decide, by decide, by decide, by decide⟩ (Nat.le_of_ble_eq_true rfl) (fun v _ => AW.kI (fun x20 => (?_ : AW _ _ _ _ 32 _ _ _ _ _ _)) v)
    refine AW.if_ne (off := 7) (tgt := 39) (by decide +kernel) (by decide) (fun _ => ?_) (fun _ => ?_)
    · refine AW.iconst (n := 2) (by decide +kernel) (?_ : AW _ _ _ _ 36 _ _ _ _ _ _)
      refine AW.goto (off := 20) (tgt := 56) (by decide +kernel) (by decide) ?_
      exact j_Model_filling_56 a1 a2 a3 2 μ
    · refine AW.iload_n (i := 3) (a := a3) (by decide +kernel) rfl (?_ : AW _ _ _ _ 40 _ _ _ _ _ _)
      refine AW.i2l (by decide +kernel) (?_ : AW _ _ _ _ 41 _ _ _ _ _ _)
      refine AW.lconst0 (by decide +kernel) (?_ : AW _ _ _ _ 42 _ _ _ _ _ _)
      refine AW.ldc2 (idx := 351) (v := 5) (by decide +kernel) zk_X9_351 (?_ : AW _ _ _ _ 45 _ _ _ _ _ _)
      refine AW.callP (g := cf_Model_isIn) (av := [zJ (w32 a3), zJ 0, zJ 5]) (idx := 99) (n := 3) (st := [zR (some 0)]) (by decide +kernel) (fun l hl r hr => c_Model_isIn l hl (w32 a3) 0 5 _ r hr) rfl cal_Model_isIn rfl (zw3 zm_X9_99 zt_yX9_isIn zn_X9) ⟨by decide, by decide, by decide, by decide⟩ (Nat.le_of_ble_eq_true rfl) (fun v _ => AW.kI (fun x22 => (?_ : AW _ _ _ _ 48 _ _ _ _ _ _)) v)
      refine AW.if_ne (off := 7) (tgt := 55) (by decide +kernel) (by decide) (fun _ => ?_) (fun _ => ?_)
      · refine AW.iconst (n := 3) (by decide +kernel) (?_ : AW _ _ _ _ 52 _ _ _ _ _ _)
        refine AW.goto (off := 4) (tgt := 56) (by decide +kernel) (by decide) ?_
        exact j_Model_filling_56 a1 a2 a3 3 μ
      · refine AW.iconst (n := 0) (by decide +kernel) (?_ : AW _ _ _ _ 56 _ _ _ _ _ _)
        exact j_Model_filling_56 a1 a2 a3 0 μ
theorem c_Model_filling (l : Launch) (hl : l.stackTraces = false) (a1 : Int) (a2 : Int) (a3 : Int) (μ : ZMem) (r : ZRes) (h : F_Model_filling a1 a2 a3 μ = some r) : ZC l cf_Model_filling S_Model S_Model [zR (some 0), zI a1, zI a2, zI a3] μ r := ZC.of hl (by decide +kernel) rfl rfl zft_X9_ok (Nat.le_of_ble_eq_true rfl) h (w_Model_filling a1 a2 a3 μ)
/-! WeirLedgerModel.needed(II)I -/
def cf_Model_needed : ZCf := (yX9_needed, cX9_needed, 13, some .int, [], 4, 0, 0, zft_X9, none)
theorem cal_Model_needed : zCallee cf_Model_needed 2 := ⟨rfl, zc_yX9_needed, by decide, by decide, by decide +kernel⟩
def J_Model_needed_271 (u10 : Int) (y0 : Int) (μ : ZMem) : Option ZRes := if w32 y0 = 0 then (some (.inr (some (zI (-1))), μ)) else (if w64 99999 < w64 u10 then (some (.inr (some (zI (-1))), μ)) else (some (.inr (some (zI u10)), μ)))
set_option maxRecDepth 100000 in
theorem j_Model_needed_271 (u10 : Int) (y0 : Int) (μ : ZMem) : AW cf_Model_needed S_Model.length S_Model S_Model 271 [(10, zJ u10)] [zI y0] μ 0 0 (J_Model_needed_271 u10 y0 μ) := by
  unfold J_Model_needed_271
  refine AW.istore' (i := 12) (L' := [(12, zI y0), (10, zJ u10)]) (by decide +kernel) (by decide) rfl (?_ : AW _ _ _ _ 273 _ _ _ _ _ _)
  refine AW.iload (i := 12) (a := y0) (by decide +kernel) rfl (?_ : AW _ _ _ _ 275 _ _ _ _ _ _)
  refine AW.if_eq (off := 18) (tgt := 293) (by decide +kernel) (by decide) (fun _ => ?_) (fun _ => ?_)
  · refine AW.iconst (n := -1) (by decide +kernel) (?_ : AW _ _ _ _ 294 _ _ _ _ _ _)
    exact AW.reti (by decide +kernel) rfl (by decide) (by decide)
  · refine AW.lload (i := 10) (a := u10) (by decide +kernel) rfl (?_ : AW _ _ _ _ 280 _ _ _ _ _ _)
    refine AW.ldc2 (idx := 368) (v := 99999) (by decide +kernel) zk_X9_368 (?_ : AW _ _ _ _ 283 _ _ _ _ _ _)
    refine AW.lcmp_gt (off := 9) (tgt := 293) (by decide +kernel) (by decide +kernel) (by decide) (fun _ => ?_) (fun _ => ?_)
    · refine AW.iconst (n := -1) (by decide +kernel) (?_ : AW _ _ _ _ 294 _ _ _ _ _ _)
      exact AW.reti (by decide +kernel) rfl (by decide) (by decide)
    · refine AW.lload (i := 10) (a := u10) (by decide +kernel) rfl (?_ : AW _ _ _ _ 289 _ _ _ _ _ _)
      refine AW.l2i (by decide +kernel) (?_ : AW _ _ _ _ 290 _ _ _ _ _ _)
      refine AW.goto (off := 4) (tgt := 294) (by decide +kernel) (by decide) ?_
      exact AW.reti (by decide +kernel) rfl (by decide) (by decide)
def J_Model_needed_266 (u10 : Int) (μ : ZMem) : Option ZRes := J_Model_needed_271 u10 1 μ
set_option maxRecDepth 100000 in
theorem j_Model_needed_266 (u10 : Int) (μ : ZMem) : AW cf_Model_needed S_Model.length S_Model S_Model 266 [(10, zJ u10)] [] μ 0 0 (J_Model_needed_266 u10 μ) := by
  unfold J_Model_needed_266
  refine AW.iconst (n := 1) (by decide +kernel) (?_ : AW _ _ _ _ 267 _ _ _ _ _ _)
  refine AW.goto (off := 4) (tgt := 271) (by decide +kernel) (by decide) ?_
  exact j_Model_needed_271 u10 1 μ
def J_Model_needed_213 (a2 : Int) (u4 : Int) (u6 : Int) (u8 : Int) (y0 : Int) (μ : ZMem) : Option ZRes := if w32 a2 = 0 then (if w64 u4 ≤ w64 0 then (J_Model_needed_271 y0 0 μ) else (J_Model_needed_271 y0 1 μ)) else (if w32 a2 = w32 1 then (if w64 u6 ≤ w64 0 then (J_Model_needed_271 y0 0 μ) else (J_Model_needed_271 y0 1 μ)) else (if w32 a2 = w32 2 then (if w64 u8 ≤ w64 0 then (J_Model_needed_271 y0 0 μ) else (J_Model_needed_266 y0 μ)) else (J_Model_needed_266 y0 μ)))
set_option maxRecDepth 100000 in
theorem j_Model_needed_213 (a2 : Int) (u4 : Int) (u6 : Int) (u8 : Int) (y0 : Int) (μ : ZMem) : AW cf_Model_needed S_Model.length S_Model S_Model 213 [(2, zI a2), (4, zJ u4), (6, zJ u6), (8, zJ u8)] [zJ y0] μ 0 0 (J_Model_needed_213 a2 u4 u6 u8 y0 μ) := by
  unfold J_Model_needed_213
  refine AW.lstore' (i := 10) (L' := [(10, zJ y0), (2, zI a2), (4, zJ u4), (6, zJ u6), (8, zJ u8)]) (by decide +kernel) (by decide) rfl (?_ : AW _ _ _ _ 215 _ _ _ _ _ _)
  refine AW.iload_n (i := 2) (a := a2) (by decide +kernel) rfl (?_ : AW _ _ _ _ 216 _ _ _ _ _ _)
  refine AW.if_ne (off := 18) (tgt := 234) (by decide +kernel) (by decide) (fun _ => ?_) (fun _ => ?_)
  · refine AW.lload (i := 4) (a := u4) (by decide +kernel) rfl (?_ : AW _ _ _ _ 221 _ _ _ _ _ _)
    refine AW.lconst0 (by decide +kernel) (?_ : AW _ _ _ _ 222 _ _ _ _ _ _)
    refine AW.lcmp_le (off := 7) (tgt := 230) (by decide +kernel) (by decide +kernel) (by decide) (fun _ => ?_) (fun _ => ?_)
    · refine AW.iconst (n := 0) (by decide +kernel) (?_ : AW _ _ _ _ 231 _ _ _ _ _ _)
      refine AW.goto (off := 40) (tgt := 271) (by decide +kernel) (by decide) ?_
      refine AW.sub (L' := [(10, zJ y0)]) [0] rfl ?_
      exact j_Model_needed_271 y0 0 μ
    · refine AW.iconst (n := 1) (by decide +kernel) (?_ : AW _ _ _ _ 227 _ _ _ _ _ _)
      refine AW.goto (off := 44) (tgt := 271) (by decide +kernel) (by decide) ?_
      refine AW.sub (L' := [(10, zJ y0)]) [0] rfl ?_
      exact j_Model_needed_271 y0 1 μ
  · refine AW.iload_n (i := 2) (a := a2) (by decide +kernel) rfl (?_ : AW _ _ _ _ 235 _ _ _ _ _ _)
    refine AW.iconst (n := 1) (by decide +kernel) (?_ : AW _ _ _ _ 236 _ _ _ _ _ _)
    refine AW.icmp_ne (off := 18) (tgt := 254) (by decide +kernel) (by decide) (fun _ => ?_) (fun _ => ?_)
    · refine AW.lload (i := 6) (a := u6) (by decide +kernel) rfl (?_ : AW _ _ _ _ 241 _ _ _ _ _ _)
      refine AW.lconst0 (by decide +kernel) (?_ : AW _ _ _ _ 242 _ _ _ _ _ _)
      refine AW.lcmp_le (off := 7) (tgt := 250) (by decide +kernel) (by decide +kernel) (by decide) (fun _ => ?_) (fun _ => ?_)
      · refine AW.iconst (n := 0) (by decide +kernel) (?_ : AW _ _ _ _ 251 _ _ _ _ _ _)
        refine AW.goto (off := 20) (tgt := 271) (by decide +kernel) (by decide) ?_
        refine AW.sub (L' := [(10, zJ y0)]) [0] rfl ?_
        exact j_Model_needed_271 y0 0 μ
      · refine AW.iconst (n := 1) (by decide +kernel) (?_ : AW _ _ _ _ 247 _ _ _ _ _ _)
        refine AW.goto (off := 24) (tgt := 271) (by decide +kernel) (by decide) ?_
        refine AW.sub (L' := [(10, zJ y0)]) [0] rfl ?_
        exact j_Model_needed_271 y0 1 μ
    · refine AW.iload_n (i := 2) (a := a2) (by decide +kernel) rfl (?_ : AW _ _ _ _ 255 _ _ _ _ _ _)
      refine AW.iconst (n := 2) (by decide +kernel) (?_ : AW _ _ _ _ 256 _ _ _ _ _ _)
      refine AW.icmp_ne (off := 10) (tgt := 266) (by decide +kernel) (by decide) (fun _ => ?_) (fun _ => ?_)
      · refine AW.lload (i := 8) (a := u8) (by decide +kernel) rfl (?_ : AW _ _ _ _ 261 _ _ _ _ _ _)
        refine AW.lconst0 (by decide +kernel) (?_ : AW _ _ _ _ 262 _ _ _ _ _ _)
        refine AW.lcmp_le (off := 7) (tgt := 270) (by decide +kernel) (by decide +kernel) (by decide) (fun _ => ?_) (fun _ => ?_)
        · refine AW.iconst (n := 0) (by decide +kernel) (?_ : AW _ _ _ _ 271 _ _ _ _ _ _)
          refine AW.sub (L' := [(10, zJ y0)]) [0] rfl ?_
          exact j_Model_needed_271 y0 0 μ
        · refine AW.sub (L' := [(10, zJ y0)]) [0] rfl ?_
          exact j_Model_needed_266 y0 μ
      · refine AW.sub (L' := [(10, zJ y0)]) [0] rfl ?_
        exact j_Model_needed_266 y0 μ
def J_Model_needed_166 (a2 : Int) (u4 : Int) (u6 : Int) (y0 : Int) (μ : ZMem) : Option ZRes := if w32 a2 = 0 then (J_Model_needed_213 a2 u4 u6 y0 1 μ) else (if w32 a2 = w32 1 then (J_Model_needed_213 a2 u4 u6 y0 (u4 + 1) μ) else (if w32 a2 = w32 2 then (J_Model_needed_213 a2 u4 u6 y0 ((u4 + u6) + 1) μ) else (J_Model_needed_213 a2 u4 u6 y0 (((u4 + u6) + y0) + 1) μ)))
set_option maxRecDepth 100000 in
theorem j_Model_needed_166 (a2 : Int) (u4 : Int) (u6 : Int) (y0 : Int) (μ : ZMem) : AW cf_Model_needed S_Model.length S_Model S_Model 166 [(2, zI a2), (4, zJ u4), (6, zJ u6)] [zJ y0] μ 0 0 (J_Model_needed_166 a2 u4 u6 y0 μ) := by
  unfold J_Model_needed_166
  refine AW.lstore' (i := 8) (L' := [(8, zJ y0), (2, zI a2), (4, zJ u4), (6, zJ u6)]) (by decide +kernel) (by decide) rfl (?_ : AW _ _ _ _ 168 _ _ _ _ _ _)
  refine AW.iload_n (i := 2) (a := a2) (by decide +kernel) rfl (?_ : AW _ _ _ _ 169 _ _ _ _ _ _)
  refine AW.if_ne (off := 7) (tgt := 176) (by decide +kernel) (by decide) (fun _ => ?_) (fun _ => ?_)
  · refine AW.lconst1 (by decide +kernel) (?_ : AW _ _ _ _ 173 _ _ _ _ _ _)
    refine AW.goto (off := 40) (tgt := 213) (by decide +kernel) (by decide) ?_
    refine AW.sub (L' := [(2, zI a2), (4, zJ u4), (6, zJ u6), (8, zJ y0)]) [1, 2, 3, 0] rfl ?_
    exact j_Model_needed_213 a2 u4 u6 y0 1 μ
  · refine AW.iload_n (i := 2) (a := a2) (by decide +kernel) rfl (?_ : AW _ _ _ _ 177 _ _ _ _ _ _)
    refine AW.iconst (n := 1) (by decide +kernel) (?_ : AW _ _ _ _ 178 _ _ _ _ _ _)
    refine AW.icmp_ne (off := 10) (tgt := 188) (by decide +kernel) (by decide) (fun _ => ?_) (fun _ => ?_)
    · refine AW.lload (i := 4) (a := u4) (by decide +kernel) rfl (?_ : AW _ _ _ _ 183 _ _ _ _ _ _)
      refine AW.lconst1 (by decide +kernel) (?_ : AW _ _ _ _ 184 _ _ _ _ _ _)
      refine AW.ladd (by decide +kernel) (?_ : AW _ _ _ _ 185 _ _ _ _ _ _)
      refine AW.goto (off := 28) (tgt := 213) (by decide +kernel) (by decide) ?_
      refine AW.sub (L' := [(2, zI a2), (4, zJ u4), (6, zJ u6), (8, zJ y0)]) [1, 2, 3, 0] rfl ?_
      exact j_Model_needed_213 a2 u4 u6 y0 (u4 + 1) μ
    · refine AW.iload_n (i := 2) (a := a2) (by decide +kernel) rfl (?_ : AW _ _ _ _ 189 _ _ _ _ _ _)
      refine AW.iconst (n := 2) (by decide +kernel) (?_ : AW _ _ _ _ 190 _ _ _ _ _ _)
      refine AW.icmp_ne (off := 13) (tgt := 203) (by decide +kernel) (by decide) (fun _ => ?_) (fun _ => ?_)
      · refine AW.lload (i := 4) (a := u4) (by decide +kernel) rfl (?_ : AW _ _ _ _ 195 _ _ _ _ _ _)
        refine AW.lload (i := 6) (a := u6) (by decide +kernel) rfl (?_ : AW _ _ _ _ 197 _ _ _ _ _ _)
        refine AW.ladd (by decide +kernel) (?_ : AW _ _ _ _ 198 _ _ _ _ _ _)
        refine AW.lconst1 (by decide +kernel) (?_ : AW _ _ _ _ 199 _ _ _ _ _ _)
        refine AW.ladd (by decide +kernel) (?_ : AW _ _ _ _ 200 _ _ _ _ _ _)
        refine AW.goto (off := 13) (tgt := 213) (by decide +kernel) (by decide) ?_
        refine AW.sub (L' := [(2, zI a2), (4, zJ u4), (6, zJ u6), (8, zJ y0)]) [1, 2, 3, 0] rfl ?_
        exact j_Model_needed_213 a2 u4 u6 y0 ((u4 + u6) + 1) μ
      · refine AW.lload (i := 4) (a := u4) (by decide +kernel) rfl (?_ : AW _ _ _ _ 205 _ _ _ _ _ _)
        refine AW.lload (i := 6) (a := u6) (by decide +kernel) rfl (?_ : AW _ _ _ _ 207 _ _ _ _ _ _)
        refine AW.ladd (by decide +kernel) (?_ : AW _ _ _ _ 208 _ _ _ _ _ _)
        refine AW.lload (i := 8) (a := y0) (by decide +kernel) rfl (?_ : AW _ _ _ _ 210 _ _ _ _ _ _)
        refine AW.ladd (by decide +kernel) (?_ : AW _ _ _ _ 211 _ _ _ _ _ _)
        refine AW.lconst1 (by decide +kernel) (?_ : AW _ _ _ _ 212 _ _ _ _ _ _)
        refine AW.ladd (by decide +kernel) (?_ : AW _ _ _ _ 213 _ _ _ _ _ _)
        refine AW.sub (L' := [(2, zI a2), (4, zJ u4), (6, zJ u6), (8, zJ y0)]) [1, 2, 3, 0] rfl ?_
        exact j_Model_needed_213 a2 u4 u6 y0 (((u4 + u6) + y0) + 1) μ
def J_Model_needed_117 (a2 : Int) (u3 : Int) (u4 : Int) (y0 : Int) (y1 : Int) (μ : ZMem) : Option ZRes := zLet ((y1 + y0)) (fun x13 => zRd μ 2 7 1 (fun x14 => zRd μ 2 7 2 (fun x15 => if w32 x14 ≤ w32 x15 then (J_Model_needed_166 a2 u4 x13 0 μ) else (zC (F_Model_ladderAt u3 2 μ) (zkI (fun x17 _ => zRd μ 5 92 x17 (fun x18 => zC (F_Model_ladderAt u3 3 μ) (zkI (fun x20 _ => zRd μ 5 92 x20 (fun x21 => zC (F_Model_caught (x18 + x13) x21 μ) (zkJ (fun x23 μ22 => J_Model_needed_166 a2 u4 x13 x23 μ22)) zX0))) zX0))) zX0))))
set_option maxRecDepth 100000 in
theorem j_Model_needed_117 (a2 : Int) (u3 : Int) (u4 : Int) (y0 : Int) (y1 : Int) (μ : ZMem) : AW cf_Model_needed S_Model.length S_Model S_Model 117 [(0, zR (some 0)), (2, zI a2), (3, zI u3), (4, zJ u4)] [zJ y0, zJ y1] μ 0 0 (J_Model_needed_117 a2 u3 u4 y0 y1 μ) := by
  unfold J_Model_needed_117
  refine AW.ladd (by decide +kernel) (?_ : AW _ _ _ _ 118 _ _ _ _ _ _)
  refine AW.lstoreL (i := 6) (L' := fun x13 => [(6, zJ x13), (0, zR (some 0)), (2, zI a2), (3, zI u3), (4, zJ u4)]) (by decide +kernel) (by decide) (fun _ => rfl) (fun x13 => (?_ : AW _ _ _ _ 120 _ _ _ _ _ _))
  refine AW.aload_n (i := 0) (a := 0) (by decide +kernel) rfl (?_ : AW _ _ _ _ 121 _ _ _ _ _ _)
  refine AW.getR (idx := 13) (ci := 9) (k := 2) (r := 0) (by decide +kernel) rfl rfl rfl (?_ : AW _ _ _ _ 124 _ _ _ _ _ _)
  refine AW.iconst (n := 1) (by decide +kernel) (?_ : AW _ _ _ _ 125 _ _ _ _ _ _)
  refine AW.iald (r := 2) (by decide +kernel) rfl (fun x14 => (?_ : AW _ _ _ _ 126 _ _ _ _ _ _))
  refine AW.aload_n (i := 0) (a := 0) (by decide +kernel) rfl (?_ : AW _ _ _ _ 127 _ _ _ _ _ _)
  refine AW.getR (idx := 13) (ci := 9) (k := 2) (r := 0) (by decide +kernel) rfl rfl rfl (?_ : AW _ _ _ _ 130 _ _ _ _ _ _)
  refine AW.iconst (n := 2) (by decide +kernel) (?_ : AW _ _ _ _ 131 _ _ _ _ _ _)
  refine AW.iald (r := 2) (by decide +kernel) rfl (fun x15 => (?_ : AW _ _ _ _ 132 _ _ _ _ _ _))
  refine AW.icmp_le (off := 33) (tgt := 165) (by decide +kernel) (by decide) (fun _ => ?_) (fun _ => ?_)
  · refine AW.lconst0 (by decide +kernel) (?_ : AW _ _ _ _ 166 _ _ _ _ _ _)
    refine AW.sub (L' := [(2, zI a2), (4, zJ u4), (6, zJ x13)]) [2, 4, 0] rfl ?_
    exact j_Model_needed_166 a2 u4 x13 0 μ
  · refine AW.aload_n (i := 0) (a := 0) (by decide +kernel) rfl (?_ : AW _ _ _ _ 136 _ _ _ _ _ _)
    refine AW.aload_n (i := 0) (a := 0) (by decide +kernel) rfl (?_ : AW _ _ _ _ 137 _ _ _ _ _ _)
    refine AW.getR (idx := 22) (ci := 9) (k := 7) (r := 0) (by decide +kernel) rfl rfl rfl (?_ : AW _ _ _ _ 140 _ _ _ _ _ _)
    refine AW.iload_n (i := 3) (a := u3) (by decide +kernel) rfl (?_ : AW _ _ _ _ 141 _ _ _ _ _ _)
    refine AW.iconst (n := 2) (by decide +kernel) (?_ : AW _ _ _ _ 142 _ _ _ _ _ _)
    refine AW.callP (g := cf_Model_ladderAt) (av := [zI u3, zI 2]) (idx := 141) (n := 2) (st := [zR (some 5), zR (some 0)]) (by decide +kernel) (fun l hl r hr => c_Model_ladderAt l hl u3 2 _ r hr) rfl cal_Model_ladderAt rfl (zw3 zm_X9_141 zt_yX9_ladderAt zn_X9) ⟨by decide, by decide, by decide, by decide⟩ (Nat.le_of_ble_eq_true rfl) (fun v _ => AW.kI (fun x17 => (?_ : AW _ _ _ _ 145 _ _ _ _ _ _)) v)
    refine AW.lald (r := 5) (by decide +kernel) rfl (fun x18 => (?_ : AW _ _ _ _ 146 _ _ _ _ _ _))
    refine AW.lload (i := 6) (a := x13) (by decide +kernel) rfl (?_ : AW _ _ _ _ 148 _ _ _ _ _ _)
    refine AW.ladd (by decide +kernel) (?_ : AW _ _ _ _ 149 _ _ _ _ _ _)
    refine AW.aload_n (i := 0) (a := 0) (by decide +kernel) rfl (?_ : AW _ _ _ _ 150 _ _ _ _ _ _)
    refine AW.getR (idx := 22) (ci := 9) (k := 7) (r := 0) (by decide +kernel) rfl rfl rfl (?_ : AW _ _ _ _ 153 _ _ _ _ _ _)
    refine AW.iload_n (i := 3) (a := u3) (by decide +kernel) rfl (?_ : AW _ _ _ _ 154 _ _ _ _ _ _)
    refine AW.iconst (n := 3) (by decide +kernel) (?_ : AW _ _ _ _ 155 _ _ _ _ _ _)
    refine AW.callP (g := cf_Model_ladderAt) (av := [zI u3, zI 3]) (idx := 141) (n := 2) (st := [zR (some 5), zJ (x18 + x13), zR (some 0)]) (by decide +kernel) (fun l hl r hr => c_Model_ladderAt l hl u3 3 _ r hr) rfl cal_Model_ladderAt rfl (zw3 zm_X9_141 zt_yX9_ladderAt zn_X9) ⟨by decide, by decide, by decide, by decide⟩ (Nat.le_of_ble_eq_true rfl) (fun v _ => AW.kI (fun x20 => (?_ : AW _ _ _ _ 158 _ _ _ _ _ _)) v)
    refine AW.lald (r := 5) (by decide +kernel) rfl (fun x21 => (?_ : AW _ _ _ _ 159 _ _ _ _ _ _))
    refine AW.callVw (g := cf_Model_caught) (av := [zJ (x18 + x13), zJ x21]) (b0 := 0) (ci := 9) (idx := 156) (n := 2) (st := []) (by decide +kernel) (fun l hl r hr => c_Model_caught l hl (x18 + x13) x21 _ r hr) S_Model_wf rfl cal_Model_caught rfl (zw4 zm_X9_156 zi_yX9_caught zs_yX9_caught zn_X9) rfl rfl ⟨by decide, by decide, by decide, by decide⟩ (Nat.le_of_ble_eq_true rfl) (Or.inl rfl) (fun v μ22 => AW.kJ (fun x23 => (?_ : AW _ _ _ _ 162 _ _ _ _ _ _)) v)
    refine AW.goto (off := 4) (tgt := 166) (by decide +kernel) (by decide) ?_
    refine AW.sub (L' := [(2, zI a2), (4, zJ u4), (6, zJ x13)]) [2, 4, 0] rfl ?_
    exact j_Model_needed_166 a2 u4 x13 x23 μ22
def J_Model_needed_86 (a2 : Int) (u3 : Int) (y0 : Int) (y1 : Int) (μ : ZMem) : Option ZRes := zLet ((y1 + y0)) (fun x9 => zC (F_Model_ladderAt u3 1 μ) (zkI (fun x11 _ => zRd μ 5 92 x11 (fun x12 => if w32 u3 ≤ 0 then (J_Model_needed_117 a2 u3 x9 0 x12 μ) else (zC (F_Model_ladderAt 1 1 μ) (zkI (fun x25 _ => zRd μ 5 92 x25 (fun x26 => J_Model_needed_117 a2 u3 x9 x26 x12 μ))) zX0)))) zX0)
set_option maxRecDepth 100000 in
theorem j_Model_needed_86 (a2 : Int) (u3 : Int) (y0 : Int) (y1 : Int) (μ : ZMem) : AW cf_Model_needed S_Model.length S_Model S_Model 86 [(0, zR (some 0)), (2, zI a2), (3, zI u3)] [zJ y0, zJ y1] μ 0 0 (J_Model_needed_86 a2 u3 y0 y1 μ) := by
  unfold J_Model_needed_86
  refine AW.ladd (by decide +kernel) (?_ : AW _ _ _ _ 87 _ _ _ _ _ _)
  refine AW.lstoreL (i := 4) (L' := fun x9 => [(4, zJ x9), (0, zR (some 0)), (2, zI a2), (3, zI u3)]) (by decide +kernel) (by decide) (fun _ => rfl) (fun x9 => (?_ : AW _ _ _ _ 89 _ _ _ _ _ _))
  refine AW.aload_n (i := 0) (a := 0) (by decide +kernel) rfl (?_ : AW _ _ _ _ 90 _ _ _ _ _ _)
  refine AW.getR (idx := 22) (ci := 9) (k := 7) (r := 0) (by decide +kernel) rfl rfl rfl (?_ : AW _ _ _ _ 93 _ _ _ _ _ _)
  refine AW.iload_n (i := 3) (a := u3) (by decide +kernel) rfl (?_ : AW _ _ _ _ 94 _ _ _ _ _ _)
  refine AW.iconst (n := 1) (by decide +kernel) (?_ : AW _ _ _ _ 95 _ _ _ _ _ _)
  refine AW.callP (g := cf_Model_ladderAt) (av := [zI u3, zI 1]) (idx := 141) (n := 2) (st := [zR (some 5)]) (by decide +kernel) (fun l hl r hr => c_Model_ladderAt l hl u3 1 _ r hr) rfl cal_Model_ladderAt rfl (zw3 zm_X9_141 zt_yX9_ladderAt zn_X9) ⟨by decide, by decide, by decide, by decide⟩ (Nat.le_of_ble_eq_true rfl) (fun v _ => AW.kI (fun x11 => (?_ : AW _ _ _ _ 98 _ _ _ _ _ _)) v)
  refine AW.lald (r := 5) (by decide +kernel) rfl (fun x12 => (?_ : AW _ _ _ _ 99 _ _ _ _ _ _))
  refine AW.iload_n (i := 3) (a := u3) (by decide +kernel) rfl (?_ : AW _ _ _ _ 100 _ _ _ _ _ _)
  refine AW.if_le (off := 16) (tgt := 116) (by decide +kernel) (by decide) (fun _ => ?_) (fun _ => ?_)
  · refine AW.lconst0 (by decide +kernel) (?_ : AW _ _ _ _ 117 _ _ _ _ _ _)
    refine AW.sub (L' := [(0, zR (some 0)), (2, zI a2), (3, zI u3), (4, zJ x9)]) [1, 2, 3, 0] rfl ?_
    exact j_Model_needed_117 a2 u3 x9 0 x12 μ
  · refine AW.aload_n (i := 0) (a := 0) (by decide +kernel) rfl (?_ : AW _ _ _ _ 104 _ _ _ _ _ _)
    refine AW.getR (idx := 22) (ci := 9) (k := 7) (r := 0) (by decide +kernel) rfl rfl rfl (?_ : AW _ _ _ _ 107 _ _ _ _ _ _)
    refine AW.iconst (n := 1) (by decide +kernel) (?_ : AW _ _ _ _ 108 _ _ _ _ _ _)
    refine AW.iconst (n := 1) (by decide +kernel) (?_ : AW _ _ _ _ 109 _ _ _ _ _ _)
    refine AW.callP (g := cf_Model_ladderAt) (av := [zI 1, zI 1]) (idx := 141) (n := 2) (st := [zR (some 5), zJ x12]) (by decide +kernel) (fun l hl r hr => c_Model_ladderAt l hl 1 1 _ r hr) rfl cal_Model_ladderAt rfl (zw3 zm_X9_141 zt_yX9_ladderAt zn_X9) ⟨by decide, by decide, by decide, by decide⟩ (Nat.le_of_ble_eq_true rfl) (fun v _ => AW.kI (fun x25 => (?_ : AW _ _ _ _ 112 _ _ _ _ _ _)) v)
    refine AW.lald (r := 5) (by decide +kernel) rfl (fun x26 => (?_ : AW _ _ _ _ 113 _ _ _ _ _ _))
    refine AW.goto (off := 4) (tgt := 117) (by decide +kernel) (by decide) ?_
    refine AW.sub (L' := [(0, zR (some 0)), (2, zI a2), (3, zI u3), (4, zJ x9)]) [1, 2, 3, 0] rfl ?_
    exact j_Model_needed_117 a2 u3 x9 x26 x12 μ
def J_Model_needed_40 (a1 : Int) (a2 : Int) (y0 : Int) (μ : ZMem) : Option ZRes := zLet (zUp μ 0 0 y0) (fun μ3 => if w32 (μ3 0 0) ≤ 0 then (zC (F_Model_ladderOf a1 μ3) (zkI (fun x5 μ4 => zC (F_Model_ladderAt x5 0 μ4) (zkI (fun x7 _ => zRd μ4 5 92 x7 (fun x8 => if w32 x5 ≤ 0 then (J_Model_needed_86 a2 x5 0 x8 μ4) else (zC (F_Model_ladderAt 1 0 μ4) (zkI (fun x28 _ => zRd μ4 5 92 x28 (fun x29 => J_Model_needed_86 a2 x5 x29 x8 μ4))) zX0)))) zX0)) zX0) else (some (.inr (some (zI 0)), μ3)))
set_option maxRecDepth 100000 in
theorem j_Model_needed_40 (a1 : Int) (a2 : Int) (y0 : Int) (μ : ZMem) : AW cf_Model_needed S_Model.length S_Model S_Model 40 [(0, zR (some 0)), (1, zI a1), (2, zI a2)] [zI y0, zR (some 0)] μ 0 0 (J_Model_needed_40 a1 a2 y0 μ) := by
  unfold J_Model_needed_40
  refine AW.putiL (idx := 93) (ci := 9) (k := 0) (r := 0) (by decide +kernel) rfl rfl rfl (fun μ3 => (?_ : AW _ _ _ _ 43 _ _ _ _ _ _))
  refine AW.aload_n (i := 0) (a := 0) (by decide +kernel) rfl (?_ : AW _ _ _ _ 44 _ _ _ _ _ _)
  refine AW.getI (idx := 93) (ci := 9) (k := 0) (r := 0) (by decide +kernel) rfl rfl rfl (?_ : AW _ _ _ _ 47 _ _ _ _ _ _)
  refine AW.if_le (off := 5) (tgt := 52) (by decide +kernel) (by decide) (fun _ => ?_) (fun _ => ?_)
  · refine AW.aload_n (i := 0) (a := 0) (by decide +kernel) rfl (?_ : AW _ _ _ _ 53 _ _ _ _ _ _)
    refine AW.iload_n (i := 1) (a := a1) (by decide +kernel) rfl (?_ : AW _ _ _ _ 54 _ _ _ _ _ _)
    refine AW.callVw (g := cf_Model_ladderOf) (av := [zI a1]) (b0 := 0) (ci := 9) (idx := 373) (n := 1) (st := []) (by decide +kernel) (fun l hl r hr => c_Model_ladderOf l hl a1 _ r hr) S_Model_wf rfl cal_Model_ladderOf rfl (zw4 zm_X9_373 zi_yX9_ladderOf zs_yX9_ladderOf zn_X9) rfl rfl ⟨by decide, by decide, by decide, by decide⟩ (Nat.le_of_ble_eq_true rfl) (Or.inl rfl) (fun v μ4 => AW.kI (fun x5 => (?_ : AW _ _ _ _ 57 _ _ _ _ _ _)) v)
    refine AW.istore_n' (i := 3) (L' := [(3, zI x5), (0, zR (some 0)), (1, zI a1), (2, zI a2)]) (by decide +kernel) (by decide) rfl (?_ : AW _ _ _ _ 58 _ _ _ _ _ _)
    refine AW.aload_n (i := 0) (a := 0) (by decide +kernel) rfl (?_ : AW _ _ _ _ 59 _ _ _ _ _ _)
    refine AW.getR (idx := 22) (ci := 9) (k := 7) (r := 0) (by decide +kernel) rfl rfl rfl (?_ : AW _ _ _ _ 62 _ _ _ _ _ _)
    refine AW.iload_n (i := 3) (a := x5) (by decide +kernel) rfl (?_ : AW _ _ _ _ 63 _ _ _ _ _ _)
    refine AW.iconst (n := 0) (by decide +kernel) (?_ : AW _ _ _ _ 64 _ _ _ _ _ _)
    refine AW.callP (g := cf_Model_ladderAt) (av := [zI x5, zI 0]) (idx := 141) (n := 2) (st := [zR (some 5)]) (by decide +kernel) (fun l hl r hr => c_Model_ladderAt l hl x5 0 _ r hr) rfl cal_Model_ladderAt rfl (zw3 zm_X9_141 zt_yX9_ladderAt zn_X9) ⟨by decide, by decide, by decide, by decide⟩ (Nat.le_of_ble_eq_true rfl) (fun v _ => AW.kI (fun x7 => (?_ : AW _ _ _ _ 67 _ _ _ _ _ _)) v)
    refine AW.lald (r := 5) (by decide +kernel) rfl (fun x8 => (?_ : AW _ _ _ _ 68 _ _ _ _ _ _))
    refine AW.iload_n (i := 3) (a := x5) (by decide +kernel) rfl (?_ : AW _ _ _ _ 69 _ _ _ _ _ _)
    refine AW.if_le (off := 16) (tgt := 85) (by decide +kernel) (by decide) (fun _ => ?_) (fun _ => ?_)
    · refine AW.lconst0 (by decide +kernel) (?_ : AW _ _ _ _ 86 _ _ _ _ _ _)
      refine AW.sub (L' := [(0, zR (some 0)), (2, zI a2), (3, zI x5)]) [1, 3, 0] rfl ?_
      exact j_Model_needed_86 a2 x5 0 x8 μ4
    · refine AW.aload_n (i := 0) (a := 0) (by decide +kernel) rfl (?_ : AW _ _ _ _ 73 _ _ _ _ _ _)
      refine AW.getR (idx := 22) (ci := 9) (k := 7) (r := 0) (by decide +kernel) rfl rfl rfl (?_ : AW _ _ _ _ 76 _ _ _ _ _ _)
      refine AW.iconst (n := 1) (by decide +kernel) (?_ : AW _ _ _ _ 77 _ _ _ _ _ _)
      refine AW.iconst (n := 0) (by decide +kernel) (?_ : AW _ _ _ _ 78 _ _ _ _ _ _)
      refine AW.callP (g := cf_Model_ladderAt) (av := [zI 1, zI 0]) (idx := 141) (n := 2) (st := [zR (some 5), zJ x8]) (by decide +kernel) (fun l hl r hr => c_Model_ladderAt l hl 1 0 _ r hr) rfl cal_Model_ladderAt rfl (zw3 zm_X9_141 zt_yX9_ladderAt zn_X9) ⟨by decide, by decide, by decide, by decide⟩ (Nat.le_of_ble_eq_true rfl) (fun v _ => AW.kI (fun x28 => (?_ : AW _ _ _ _ 81 _ _ _ _ _ _)) v)
      refine AW.lald (r := 5) (by decide +kernel) rfl (fun x29 => (?_ : AW _ _ _ _ 82 _ _ _ _ _ _))
      refine AW.goto (off := 4) (tgt := 86) (by decide +kernel) (by decide) ?_
      refine AW.sub (L' := [(0, zR (some 0)), (2, zI a2), (3, zI x5)]) [1, 3, 0] rfl ?_
      exact j_Model_needed_86 a2 x5 x29 x8 μ4
  · refine AW.iconst (n := 0) (by decide +kernel) (?_ : AW _ _ _ _ 51 _ _ _ _ _ _)
    exact AW.reti (by decide +kernel) rfl (by decide) (by decide)
def F_Model_needed (a1 : Int) (a2 : Int) (μ : ZMem) : Option ZRes := zC (F_Model_isIn (w32 a1) (-1) (w32 ((μ 0 6) - 1)) μ) (zkI (fun x2 _ => if w32 x2 = 0 then (J_Model_needed_40 a1 a2 1 μ) else (zC (F_Model_isIn (w32 a2) 0 3 μ) (zkI (fun x31 _ => if w32 x31 = 0 then (J_Model_needed_40 a1 a2 2 μ) else (J_Model_needed_40 a1 a2 0 μ))) zX0))) zX0
set_option maxRecDepth 100000 in
theorem w_Model_needed (a1 : Int) (a2 : Int) (μ : ZMem) : AW cf_Model_needed S_Model.length S_Model S_Model 0 [(0, zR (some 0)), (1, zI a1), (2, zI a2)] [] μ 0 0 (F_Model_needed a1 a2 μ) := by
  unfold F_Model_needed
  refine AW.aload_n (i := 0) (a := 0) (by decide +kernel) rfl (?_ : AW _ _ _ _ 1 _ _ _ _ _ _)
  refine AW.iload_n (i := 1) (a := a1) (by decide +kernel) rfl (?_ : AW _ _ _ _ 2 _ _ _ _ _ _)
  refine AW.i2l (by decide +kernel) (?_ : AW _ _ _ _ 3 _ _ _ _ _ _)
  refine AW.ldc2 (idx := 127) (v := -1) (by decide +kernel) zk_X9_127 (?_ : AW _ _ _ _ 6 _ _ _ _ _ _)
  refine AW.aload_n (i := 0) (a := 0) (by decide +kernel) rfl (?_ : AW _ _ _ _ 7 _ _ _ _ _ _)
  refine AW.getI (idx := 103) (ci := 9) (k := 6) (r := 0) (by decide +kernel) rfl rfl rfl (?_ : AW _ _ _ _ 10 _ _ _ _ _ _)
  refine AW.iconst (n := 1) (by decide +kernel) (?_ : AW _ _ _ _ 11 _ _ _ _ _ _)
  refine AW.isub (by decide +kernel) (?_ : AW _ _ _ _ 12 _ _ _ _ _ _)
  refine AW.i2l (by decide +kernel) (?_ : AW _ _ _ _ 13 _ _ _ _ _ _)
  refine AW.callP (g := cf_Model_isIn) (av := [zJ (w32 a1), zJ (-1), zJ (w32 ((μ 0 6) - 1))]) (idx := 99) (n := 3) (st := [zR (some 0)]) (by decide +kernel) (fun l hl r hr => c_Model_isIn l hl (w32 a1) (-1) (w32 ((μ 0 6) - 1)) _ r hr) rfl cal_Model_isIn rfl (zw3 zm_X9_99 zt_yX9_isIn zn_X9) ⟨by decide, by decide, by decide, by decide⟩ (Nat.le_of_ble_eq_true rfl) (fun v _ => AW.kI (fun x2 => (?_ : AW _ _ _ _ 16 _ _ _ _ _ _)) v)
  refine AW.if_ne (off := 7) (tgt := 23) (by decide +kernel) (by decide) (fun _ => ?_) (fun _ => ?_)
  · refine AW.iconst (n := 1) (by decide +kernel) (?_ : AW _ _ _ _ 20 _ _ _ _ _ _)
    refine AW.goto (off := 20) (tgt := 40) (by decide +kernel) (by decide) ?_
    exact j_Model_needed_40 a1 a2 1 μ
  · refine AW.iload_n (i := 2) (a := a2) (by decide +kernel) rfl (?_ : AW _ _ _ _ 24 _ _ _ _ _ _)
    refine AW.i2l (by decide +kernel) (?_ : AW _ _ _ _ 25 _ _ _ _ _ _)
    refine AW.lconst0 (by decide +kernel) (?_ : AW _ _ _ _ 26 _ _ _ _ _ _)
    refine AW.ldc2 (idx := 360) (v := 3) (by decide +kernel) zk_X9_360 (?_ : AW _ _ _ _ 29 _ _ _ _ _ _)
    refine AW.callP (g := cf_Model_isIn) (av := [zJ (w32 a2), zJ 0, zJ 3]) (idx := 99) (n := 3) (st := [zR (some 0)]) (by decide +kernel) (fun l hl r hr => c_Model_isIn l hl (w32 a2) 0 3 _ r hr) rfl cal_Model_isIn rfl (zw3 zm_X9_99 zt_yX9_isIn zn_X9) ⟨by decide, by decide, by decide, by decide⟩ (Nat.le_of_ble_eq_true rfl) (fun v _ => AW.kI (fun x31 => (?_ : AW _ _ _ _ 32 _ _ _ _ _ _)) v)
    refine AW.if_ne (off := 7) (tgt := 39) (by decide +kernel) (by decide) (fun _ => ?_) (fun _ => ?_)
    · refine AW.iconst (n := 2) (by decide +kernel) (?_ : AW _ _ _ _ 36 _ _ _ _ _ _)
      refine AW.goto (off := 4) (tgt := 40) (by decide +kernel) (by decide) ?_
      exact j_Model_needed_40 a1 a2 2 μ
    · refine AW.iconst (n := 0) (by decide +kernel) (?_ : AW _ _ _ _ 40 _ _ _ _ _ _)
      exact j_Model_needed_40 a1 a2 0 μ
theorem c_Model_needed (l : Launch) (hl : l.stackTraces = false) (a1 : Int) (a2 : Int) (μ : ZMem) (r : ZRes) (h : F_Model_needed a1 a2 μ = some r) : ZC l cf_Model_needed S_Model S_Model [zR (some 0), zI a1, zI a2] μ r := ZC.of hl (by decide +kernel) rfl rfl zft_X9_ok (Nat.le_of_ble_eq_true rfl) h (w_Model_needed a1 a2 μ)
/-! WeirLedgerModel.hersOf(JJ)J -/
def cf_Model_hersOf : ZCf := (yX9_hersOf, cX9_hersOf, 7, some .long, [], 3, 0, 0, zft_X9, none)
theorem cal_Model_hersOf : zCallee cf_Model_hersOf 2 := ⟨rfl, zc_yX9_hersOf, by decide, by decide, by decide +kernel⟩
def F_Model_hersOf (a1 : Int) (a2 : Int) (μ : ZMem) : Option ZRes := if w64 0 < w64 a1 then (zC (F_Model_lesser a1 a2 μ) (zkJ (fun x2 _ => zRd μ 2 7 1 (fun x3 => zRd μ 2 7 2 (fun x4 => some (.inr (some (zJ (((w64 ((w32 x3) * x2)).tdiv (w64 100)) + ((w64 ((w32 x4) * (a1 - x2))).tdiv (w64 100))))), μ))))) zX0) else (some (.inr (some (zJ 0)), μ))
set_option maxRecDepth 100000 in
theorem w_Model_hersOf (a1 : Int) (a2 : Int) (μ : ZMem) : AW cf_Model_hersOf S_Model.length S_Model S_Model 0 [(0, zR (some 0)), (1, zJ a1), (3, zJ a2)] [] μ 0 0 (F_Model_hersOf a1 a2 μ) := by
  unfold F_Model_hersOf
  refine AW.lload_n (i := 1) (a := a1) (by decide +kernel) rfl (?_ : AW _ _ _ _ 1 _ _ _ _ _ _)
  refine AW.lconst0 (by decide +kernel) (?_ : AW _ _ _ _ 2 _ _ _ _ _ _)
  refine AW.lcmp_gt (off := 5) (tgt := 8) (by decide +kernel) (by decide +kernel) (by decide) (fun _ => ?_) (fun _ => ?_)
  · refine AW.lload_n (i := 1) (a := a1) (by decide +kernel) rfl (?_ : AW _ _ _ _ 9 _ _ _ _ _ _)
    refine AW.lload_n (i := 3) (a := a2) (by decide +kernel) rfl (?_ : AW _ _ _ _ 10 _ _ _ _ _ _)
    refine AW.callP (g := cf_Model_lesser) (av := [zJ a1, zJ a2]) (idx := 144) (n := 2) (st := []) (by decide +kernel) (fun l hl r hr => c_Model_lesser l hl a1 a2 _ r hr) rfl cal_Model_lesser rfl (zw3 zm_X9_144 zt_yX9_lesser zn_X9) ⟨by decide, by decide, by decide, by decide⟩ (Nat.le_of_ble_eq_true rfl) (fun v _ => AW.kJ (fun x2 => (?_ : AW _ _ _ _ 13 _ _ _ _ _ _)) v)
    refine AW.lstore' (i := 5) (L' := [(5, zJ x2), (0, zR (some 0)), (1, zJ a1), (3, zJ a2)]) (by decide +kernel) (by decide) rfl (?_ : AW _ _ _ _ 15 _ _ _ _ _ _)
    refine AW.aload_n (i := 0) (a := 0) (by decide +kernel) rfl (?_ : AW _ _ _ _ 16 _ _ _ _ _ _)
    refine AW.getR (idx := 13) (ci := 9) (k := 2) (r := 0) (by decide +kernel) rfl rfl rfl (?_ : AW _ _ _ _ 19 _ _ _ _ _ _)
    refine AW.iconst (n := 1) (by decide +kernel) (?_ : AW _ _ _ _ 20 _ _ _ _ _ _)
    refine AW.iald (r := 2) (by decide +kernel) rfl (fun x3 => (?_ : AW _ _ _ _ 21 _ _ _ _ _ _))
    refine AW.i2l (by decide +kernel) (?_ : AW _ _ _ _ 22 _ _ _ _ _ _)
    refine AW.lload (i := 5) (a := x2) (by decide +kernel) rfl (?_ : AW _ _ _ _ 24 _ _ _ _ _ _)
    refine AW.lmul (by decide +kernel) (?_ : AW _ _ _ _ 25 _ _ _ _ _ _)
    refine AW.ldc2 (idx := 150) (v := 100) (by decide +kernel) zk_X9_150 (?_ : AW _ _ _ _ 28 _ _ _ _ _ _)
    refine AW.ldiv (by decide +kernel) (by decide +kernel) (?_ : AW _ _ _ _ 29 _ _ _ _ _ _)
    refine AW.aload_n (i := 0) (a := 0) (by decide +kernel) rfl (?_ : AW _ _ _ _ 30 _ _ _ _ _ _)
    refine AW.getR (idx := 13) (ci := 9) (k := 2) (r := 0) (by decide +kernel) rfl rfl rfl (?_ : AW _ _ _ _ 33 _ _ _ _ _ _)
    refine AW.iconst (n := 2) (by decide +kernel) (?_ : AW _ _ _ _ 34 _ _ _ _ _ _)
    refine AW.iald (r := 2) (by decide +kernel) rfl (fun x4 => (?_ : AW _ _ _ _ 35 _ _ _ _ _ _))
    refine AW.i2l (by decide +kernel) (?_ : AW _ _ _ _ 36 _ _ _ _ _ _)
    refine AW.lload_n (i := 1) (a := a1) (by decide +kernel) rfl (?_ : AW _ _ _ _ 37 _ _ _ _ _ _)
    refine AW.lload (i := 5) (a := x2) (by decide +kernel) rfl (?_ : AW _ _ _ _ 39 _ _ _ _ _ _)
    refine AW.lsub (by decide +kernel) (?_ : AW _ _ _ _ 40 _ _ _ _ _ _)
    refine AW.lmul (by decide +kernel) (?_ : AW _ _ _ _ 41 _ _ _ _ _ _)
    refine AW.ldc2 (idx := 150) (v := 100) (by decide +kernel) zk_X9_150 (?_ : AW _ _ _ _ 44 _ _ _ _ _ _)
    refine AW.ldiv (by decide +kernel) (by decide +kernel) (?_ : AW _ _ _ _ 45 _ _ _ _ _ _)
    refine AW.ladd (by decide +kernel) (?_ : AW _ _ _ _ 46 _ _ _ _ _ _)
    exact AW.retl (by decide +kernel) rfl (by decide) (by decide)
  · refine AW.lconst0 (by decide +kernel) (?_ : AW _ _ _ _ 7 _ _ _ _ _ _)
    exact AW.retl (by decide +kernel) rfl (by decide) (by decide)
theorem c_Model_hersOf (l : Launch) (hl : l.stackTraces = false) (a1 : Int) (a2 : Int) (μ : ZMem) (r : ZRes) (h : F_Model_hersOf a1 a2 μ = some r) : ZC l cf_Model_hersOf S_Model S_Model [zR (some 0), zJ a1, zJ a2] μ r := ZC.of hl (by decide +kernel) rfl rfl zft_X9_ok (Nat.le_of_ble_eq_true rfl) h (w_Model_hersOf a1 a2 μ)
/-! WeirLedgerModel.reaches(II)I -/
def cf_Model_reaches : ZCf := (yX9_reaches, cX9_reaches, 11, some .int, [], 4, 0, 0, zft_X9, none)
theorem cal_Model_reaches : zCallee cf_Model_reaches 2 := ⟨rfl, zc_yX9_reaches, by decide, by decide, by decide +kernel⟩
def L_Model_reaches_174 (c2 : Int) (c6 : Int) (c8 : Int) (K : ZMem → Option ZRes) : Nat → Int → ZMem → Option ZRes
  | 0, _, _ => none
  | n + 1, v10, μ => if w32 99999 < w32 v10 then (K  μ) else (zC (F_Model_hersOf ((w32 v10) - c6) c8 μ) (zkJ (fun x17 μ16 => if w64 x17 < w64 (w32 c2) then (zLet (v10 + 1) (fun x18 => L_Model_reaches_174 c2 c6 c8 K n x18 μ16)) else (some (.inr (some (zI v10)), μ16)))) zX0)
set_option maxRecDepth 100000 in
theorem l_Model_reaches_174 {c2 : Int} {c6 : Int} {c8 : Int} {K : ZMem → Option ZRes} (hK : ∀ (μ : ZMem), AW cf_Model_reaches S_Model.length S_Model S_Model 209 [] [] μ 0 0 (K μ)) : ∀ (n : Nat) (v10 : Int) (μ : ZMem), AW cf_Model_reaches S_Model.length S_Model S_Model 174 [(0, zR (some 0)), (2, zI c2), (6, zJ c6), (8, zJ c8), (10, zI v10)] [] μ 0 0 (L_Model_reaches_174 c2 c6 c8 K n v10 μ) := by
  intro n
  induction n with
  | zero => intro v10 μ; exact AW.noth
  | succ n ih =>
    intro v10 μ
    rw [L_Model_reaches_174]
    refine AW.iload (i := 10) (a := v10) (by decide +kernel) rfl (?_ : AW _ _ _ _ 176 _ _ _ _ _ _)
    refine AW.ldcw (idx := 380) (v := 99999) (by decide +kernel) zk_X9_380 (?_ : AW _ _ _ _ 179 _ _ _ _ _ _)
    refine AW.icmp_gt (off := 30) (tgt := 209) (by decide +kernel) (by decide) (fun _ => ?_) (fun _ => ?_)
    · refine AW.sub (L' := []) [] rfl ?_
      exact hK  μ
    · refine AW.aload_n (i := 0) (a := 0) (by decide +kernel) rfl (?_ : AW _ _ _ _ 183 _ _ _ _ _ _)
      refine AW.iload (i := 10) (a := v10) (by decide +kernel) rfl (?_ : AW _ _ _ _ 185 _ _ _ _ _ _)
      refine AW.i2l (by decide +kernel) (?_ : AW _ _ _ _ 186 _ _ _ _ _ _)
      refine AW.lload (i := 6) (a := c6) (by decide +kernel) rfl (?_ : AW _ _ _ _ 188 _ _ _ _ _ _)
      refine AW.lsub (by decide +kernel) (?_ : AW _ _ _ _ 189 _ _ _ _ _ _)
      refine AW.lload (i := 8) (a := c8) (by decide +kernel) rfl (?_ : AW _ _ _ _ 191 _ _ _ _ _ _)
      refine AW.callVw (g := cf_Model_hersOf) (av := [zJ ((w32 v10) - c6), zJ c8]) (b0 := 0) (ci := 9) (idx := 381) (n := 2) (st := []) (by decide +kernel) (fun l hl r hr => c_Model_hersOf l hl ((w32 v10) - c6) c8 _ r hr) S_Model_wf rfl cal_Model_hersOf rfl (zw4 zm_X9_381 zi_yX9_hersOf zs_yX9_hersOf zn_X9) rfl rfl ⟨by decide, by decide, by decide, by decide⟩ (Nat.le_of_ble_eq_true rfl) (Or.inl rfl) (fun v μ16 => AW.kJ (fun x17 => (?_ : AW _ _ _ _ 194 _ _ _ _ _ _)) v)
      refine AW.iload_n (i := 2) (a := c2) (by decide +kernel) rfl (?_ : AW _ _ _ _ 195 _ _ _ _ _ _)
      refine AW.i2l (by decide +kernel) (?_ : AW _ _ _ _ 196 _ _ _ _ _ _)
      refine AW.lcmp_lt (off := 6) (tgt := 203) (by decide +kernel) (by decide +kernel) (by decide) (fun _ => ?_) (fun _ => ?_)
      · refine AW.iincL (i := 10) (n := 1) (a := v10) (L' := fun x18 => [(10, zI x18), (0, zR (some 0)), (2, zI c2), (6, zJ c6), (8, zJ c8)]) (by decide +kernel) rfl (by decide) (fun _ => rfl) (fun x18 => (?_ : AW _ _ _ _ 206 _ _ _ _ _ _))
        refine AW.goto (off := -32) (tgt := 174) (by decide +kernel) (by decide) ?_
        refine AW.sub (L' := [(0, zR (some 0)), (2, zI c2), (6, zJ c6), (8, zJ c8), (10, zI x18)]) [1, 2, 3, 4, 0] rfl ?_
        exact ih x18 μ16
      · refine AW.iload (i := 10) (a := v10) (by decide +kernel) rfl (?_ : AW _ _ _ _ 202 _ _ _ _ _ _)
        exact AW.reti (by decide +kernel) rfl (by decide) (by decide)
def J_Model_reaches_169 (a2 : Int) (u6 : Int) (y0 : Int) (μ : ZMem) : Option ZRes := L_Model_reaches_174 a2 u6 y0 (fun μ19 => some (.inr (some (zI (-1))), μ19)) zN 0 μ
set_option maxRecDepth 100000 in
theorem j_Model_reaches_169 (a2 : Int) (u6 : Int) (y0 : Int) (μ : ZMem) : AW cf_Model_reaches S_Model.length S_Model S_Model 169 [(0, zR (some 0)), (2, zI a2), (6, zJ u6)] [zJ y0] μ 0 0 (J_Model_reaches_169 a2 u6 y0 μ) := by
  unfold J_Model_reaches_169
  refine AW.lstore' (i := 8) (L' := [(8, zJ y0), (0, zR (some 0)), (2, zI a2), (6, zJ u6)]) (by decide +kernel) (by decide) rfl (?_ : AW _ _ _ _ 171 _ _ _ _ _ _)
  refine AW.iconst (n := 0) (by decide +kernel) (?_ : AW _ _ _ _ 172 _ _ _ _ _ _)
  refine AW.istore' (i := 10) (L' := [(10, zI 0), (8, zJ y0), (0, zR (some 0)), (2, zI a2), (6, zJ u6)]) (by decide +kernel) (by decide) rfl (?_ : AW _ _ _ _ 174 _ _ _ _ _ _)
  refine AW.sub (L' := [(0, zR (some 0)), (2, zI a2), (6, zJ u6), (8, zJ y0), (10, zI 0)]) [2, 3, 4, 1, 0] rfl ?_
  refine l_Model_reaches_174 (fun μ19 => ?_) zN _ _
  refine AW.iconst (n := -1) (by decide +kernel) (?_ : AW _ _ _ _ 210 _ _ _ _ _ _)
  exact AW.reti (by decide +kernel) rfl (by decide) (by decide)
def J_Model_reaches_117 (a2 : Int) (u3 : Int) (u4 : Int) (y0 : Int) (y1 : Int) (μ : ZMem) : Option ZRes := zLet (((y1 + y0) + u4)) (fun x13 => zRd μ 2 7 1 (fun x14 => zRd μ 2 7 2 (fun x15 => if w32 x14 ≤ w32 x15 then (J_Model_reaches_169 a2 x13 0 μ) else (zC (F_Model_ladderAt u3 2 μ) (zkI (fun x21 _ => zRd μ 5 92 x21 (fun x22 => zC (F_Model_ladderAt u3 3 μ) (zkI (fun x24 _ => zRd μ 5 92 x24 (fun x25 => zC (F_Model_caught (x22 + u4) x25 μ) (zkJ (fun x27 μ26 => J_Model_reaches_169 a2 x13 x27 μ26)) zX0))) zX0))) zX0))))
set_option maxRecDepth 100000 in
theorem j_Model_reaches_117 (a2 : Int) (u3 : Int) (u4 : Int) (y0 : Int) (y1 : Int) (μ : ZMem) : AW cf_Model_reaches S_Model.length S_Model S_Model 117 [(0, zR (some 0)), (2, zI a2), (3, zI u3), (4, zJ u4)] [zJ y0, zJ y1] μ 0 0 (J_Model_reaches_117 a2 u3 u4 y0 y1 μ) := by
  unfold J_Model_reaches_117
  refine AW.ladd (by decide +kernel) (?_ : AW _ _ _ _ 118 _ _ _ _ _ _)
  refine AW.lload (i := 4) (a := u4) (by decide +kernel) rfl (?_ : AW _ _ _ _ 120 _ _ _ _ _ _)
  refine AW.ladd (by decide +kernel) (?_ : AW _ _ _ _ 121 _ _ _ _ _ _)
  refine AW.lstoreL (i := 6) (L' := fun x13 => [(6, zJ x13), (0, zR (some 0)), (2, zI a2), (3, zI u3), (4, zJ u4)]) (by decide +kernel) (by decide) (fun _ => rfl) (fun x13 => (?_ : AW _ _ _ _ 123 _ _ _ _ _ _))
  refine AW.aload_n (i := 0) (a := 0) (by decide +kernel) rfl (?_ : AW _ _ _ _ 124 _ _ _ _ _ _)
  refine AW.getR (idx := 13) (ci := 9) (k := 2) (r := 0) (by decide +kernel) rfl rfl rfl (?_ : AW _ _ _ _ 127 _ _ _ _ _ _)
  refine AW.iconst (n := 1) (by decide +kernel) (?_ : AW _ _ _ _ 128 _ _ _ _ _ _)
  refine AW.iald (r := 2) (by decide +kernel) rfl (fun x14 => (?_ : AW _ _ _ _ 129 _ _ _ _ _ _))
  refine AW.aload_n (i := 0) (a := 0) (by decide +kernel) rfl (?_ : AW _ _ _ _ 130 _ _ _ _ _ _)
  refine AW.getR (idx := 13) (ci := 9) (k := 2) (r := 0) (by decide +kernel) rfl rfl rfl (?_ : AW _ _ _ _ 133 _ _ _ _ _ _)
  refine AW.iconst (n := 2) (by decide +kernel) (?_ : AW _ _ _ _ 134 _ _ _ _ _ _)
  refine AW.iald (r := 2) (by decide +kernel) rfl (fun x15 => (?_ : AW _ _ _ _ 135 _ _ _ _ _ _))
  refine AW.icmp_le (off := 33) (tgt := 168) (by decide +kernel) (by decide) (fun _ => ?_) (fun _ => ?_)
  · refine AW.lconst0 (by decide +kernel) (?_ : AW _ _ _ _ 169 _ _ _ _ _ _)
    refine AW.sub (L' := [(0, zR (some 0)), (2, zI a2), (6, zJ x13)]) [1, 2, 0] rfl ?_
    exact j_Model_reaches_169 a2 x13 0 μ
  · refine AW.aload_n (i := 0) (a := 0) (by decide +kernel) rfl (?_ : AW _ _ _ _ 139 _ _ _ _ _ _)
    refine AW.aload_n (i := 0) (a := 0) (by decide +kernel) rfl (?_ : AW _ _ _ _ 140 _ _ _ _ _ _)
    refine AW.getR (idx := 22) (ci := 9) (k := 7) (r := 0) (by decide +kernel) rfl rfl rfl (?_ : AW _ _ _ _ 143 _ _ _ _ _ _)
    refine AW.iload_n (i := 3) (a := u3) (by decide +kernel) rfl (?_ : AW _ _ _ _ 144 _ _ _ _ _ _)
    refine AW.iconst (n := 2) (by decide +kernel) (?_ : AW _ _ _ _ 145 _ _ _ _ _ _)
    refine AW.callP (g := cf_Model_ladderAt) (av := [zI u3, zI 2]) (idx := 141) (n := 2) (st := [zR (some 5), zR (some 0)]) (by decide +kernel) (fun l hl r hr => c_Model_ladderAt l hl u3 2 _ r hr) rfl cal_Model_ladderAt rfl (zw3 zm_X9_141 zt_yX9_ladderAt zn_X9) ⟨by decide, by decide, by decide, by decide⟩ (Nat.le_of_ble_eq_true rfl) (fun v _ => AW.kI (fun x21 => (?_ : AW _ _ _ _ 148 _ _ _ _ _ _)) v)
    refine AW.lald (r := 5) (by decide +kernel) rfl (fun x22 => (?_ : AW _ _ _ _ 149 _ _ _ _ _ _))
    refine AW.lload (i := 4) (a := u4) (by decide +kernel) rfl (?_ : AW _ _ _ _ 151 _ _ _ _ _ _)
    refine AW.ladd (by decide +kernel) (?_ : AW _ _ _ _ 152 _ _ _ _ _ _)
    refine AW.aload_n (i := 0) (a := 0) (by decide +kernel) rfl (?_ : AW _ _ _ _ 153 _ _ _ _ _ _)
    refine AW.getR (idx := 22) (ci := 9) (k := 7) (r := 0) (by decide +kernel) rfl rfl rfl (?_ : AW _ _ _ _ 156 _ _ _ _ _ _)
    refine AW.iload_n (i := 3) (a := u3) (by decide +kernel) rfl (?_ : AW _ _ _ _ 157 _ _ _ _ _ _)
    refine AW.iconst (n := 3) (by decide +kernel) (?_ : AW _ _ _ _ 158 _ _ _ _ _ _)
    refine AW.callP (g := cf_Model_ladderAt) (av := [zI u3, zI 3]) (idx := 141) (n := 2) (st := [zR (some 5), zJ (x22 + u4), zR (some 0)]) (by decide +kernel) (fun l hl r hr => c_Model_ladderAt l hl u3 3 _ r hr) rfl cal_Model_ladderAt rfl (zw3 zm_X9_141 zt_yX9_ladderAt zn_X9) ⟨by decide, by decide, by decide, by decide⟩ (Nat.le_of_ble_eq_true rfl) (fun v _ => AW.kI (fun x24 => (?_ : AW _ _ _ _ 161 _ _ _ _ _ _)) v)
    refine AW.lald (r := 5) (by decide +kernel) rfl (fun x25 => (?_ : AW _ _ _ _ 162 _ _ _ _ _ _))
    refine AW.callVw (g := cf_Model_caught) (av := [zJ (x22 + u4), zJ x25]) (b0 := 0) (ci := 9) (idx := 156) (n := 2) (st := []) (by decide +kernel) (fun l hl r hr => c_Model_caught l hl (x22 + u4) x25 _ r hr) S_Model_wf rfl cal_Model_caught rfl (zw4 zm_X9_156 zi_yX9_caught zs_yX9_caught zn_X9) rfl rfl ⟨by decide, by decide, by decide, by decide⟩ (Nat.le_of_ble_eq_true rfl) (Or.inl rfl) (fun v μ26 => AW.kJ (fun x27 => (?_ : AW _ _ _ _ 165 _ _ _ _ _ _)) v)
    refine AW.goto (off := 4) (tgt := 169) (by decide +kernel) (by decide) ?_
    refine AW.sub (L' := [(0, zR (some 0)), (2, zI a2), (6, zJ x13)]) [1, 2, 0] rfl ?_
    exact j_Model_reaches_169 a2 x13 x27 μ26
def J_Model_reaches_86 (a2 : Int) (u3 : Int) (y0 : Int) (y1 : Int) (μ : ZMem) : Option ZRes := zLet ((y1 + y0)) (fun x9 => zC (F_Model_ladderAt u3 0 μ) (zkI (fun x11 _ => zRd μ 5 92 x11 (fun x12 => if w32 u3 ≤ 0 then (J_Model_reaches_117 a2 u3 x9 0 x12 μ) else (zC (F_Model_ladderAt 1 0 μ) (zkI (fun x29 _ => zRd μ 5 92 x29 (fun x30 => J_Model_reaches_117 a2 u3 x9 x30 x12 μ))) zX0)))) zX0)
set_option maxRecDepth 100000 in
theorem j_Model_reaches_86 (a2 : Int) (u3 : Int) (y0 : Int) (y1 : Int) (μ : ZMem) : AW cf_Model_reaches S_Model.length S_Model S_Model 86 [(0, zR (some 0)), (2, zI a2), (3, zI u3)] [zJ y0, zJ y1] μ 0 0 (J_Model_reaches_86 a2 u3 y0 y1 μ) := by
  unfold J_Model_reaches_86
  refine AW.ladd (by decide +kernel) (?_ : AW _ _ _ _ 87 _ _ _ _ _ _)
  refine AW.lstoreL (i := 4) (L' := fun x9 => [(4, zJ x9), (0, zR (some 0)), (2, zI a2), (3, zI u3)]) (by decide +kernel) (by decide) (fun _ => rfl) (fun x9 => (?_ : AW _ _ _ _ 89 _ _ _ _ _ _))
  refine AW.aload_n (i := 0) (a := 0) (by decide +kernel) rfl (?_ : AW _ _ _ _ 90 _ _ _ _ _ _)
  refine AW.getR (idx := 22) (ci := 9) (k := 7) (r := 0) (by decide +kernel) rfl rfl rfl (?_ : AW _ _ _ _ 93 _ _ _ _ _ _)
  refine AW.iload_n (i := 3) (a := u3) (by decide +kernel) rfl (?_ : AW _ _ _ _ 94 _ _ _ _ _ _)
  refine AW.iconst (n := 0) (by decide +kernel) (?_ : AW _ _ _ _ 95 _ _ _ _ _ _)
  refine AW.callP (g := cf_Model_ladderAt) (av := [zI u3, zI 0]) (idx := 141) (n := 2) (st := [zR (some 5)]) (by decide +kernel) (fun l hl r hr => c_Model_ladderAt l hl u3 0 _ r hr) rfl cal_Model_ladderAt rfl (zw3 zm_X9_141 zt_yX9_ladderAt zn_X9) ⟨by decide, by decide, by decide, by decide⟩ (Nat.le_of_ble_eq_true rfl) (fun v _ => AW.kI (fun x11 => (?_ : AW _ _ _ _ 98 _ _ _ _ _ _)) v)
  refine AW.lald (r := 5) (by decide +kernel) rfl (fun x12 => (?_ : AW _ _ _ _ 99 _ _ _ _ _ _))
  refine AW.iload_n (i := 3) (a := u3) (by decide +kernel) rfl (?_ : AW _ _ _ _ 100 _ _ _ _ _ _)
  refine AW.if_le (off := 16) (tgt := 116) (by decide +kernel) (by decide) (fun _ => ?_) (fun _ => ?_)
  · refine AW.lconst0 (by decide +kernel) (?_ : AW _ _ _ _ 117 _ _ _ _ _ _)
    refine AW.sub (L' := [(0, zR (some 0)), (2, zI a2), (3, zI u3), (4, zJ x9)]) [1, 2, 3, 0] rfl ?_
    exact j_Model_reaches_117 a2 u3 x9 0 x12 μ
  · refine AW.aload_n (i := 0) (a := 0) (by decide +kernel) rfl (?_ : AW _ _ _ _ 104 _ _ _ _ _ _)
    refine AW.getR (idx := 22) (ci := 9) (k := 7) (r := 0) (by decide +kernel) rfl rfl rfl (?_ : AW _ _ _ _ 107 _ _ _ _ _ _)
    refine AW.iconst (n := 1) (by decide +kernel) (?_ : AW _ _ _ _ 108 _ _ _ _ _ _)
    refine AW.iconst (n := 0) (by decide +kernel) (?_ : AW _ _ _ _ 109 _ _ _ _ _ _)
    refine AW.callP (g := cf_Model_ladderAt) (av := [zI 1, zI 0]) (idx := 141) (n := 2) (st := [zR (some 5), zJ x12]) (by decide +kernel) (fun l hl r hr => c_Model_ladderAt l hl 1 0 _ r hr) rfl cal_Model_ladderAt rfl (zw3 zm_X9_141 zt_yX9_ladderAt zn_X9) ⟨by decide, by decide, by decide, by decide⟩ (Nat.le_of_ble_eq_true rfl) (fun v _ => AW.kI (fun x29 => (?_ : AW _ _ _ _ 112 _ _ _ _ _ _)) v)
    refine AW.lald (r := 5) (by decide +kernel) rfl (fun x30 => (?_ : AW _ _ _ _ 113 _ _ _ _ _ _))
    refine AW.goto (off := 4) (tgt := 117) (by decide +kernel) (by decide) ?_
    refine AW.sub (L' := [(0, zR (some 0)), (2, zI a2), (3, zI u3), (4, zJ x9)]) [1, 2, 3, 0] rfl ?_
    exact j_Model_reaches_117 a2 u3 x9 x30 x12 μ
def J_Model_reaches_40 (a1 : Int) (a2 : Int) (y0 : Int) (μ : ZMem) : Option ZRes := zLet (zUp μ 0 0 y0) (fun μ3 => if w32 (μ3 0 0) ≤ 0 then (zC (F_Model_ladderOf a1 μ3) (zkI (fun x5 μ4 => zC (F_Model_ladderAt x5 1 μ4) (zkI (fun x7 _ => zRd μ4 5 92 x7 (fun x8 => if w32 x5 ≤ 0 then (J_Model_reaches_86 a2 x5 0 x8 μ4) else (zC (F_Model_ladderAt 1 1 μ4) (zkI (fun x32 _ => zRd μ4 5 92 x32 (fun x33 => J_Model_reaches_86 a2 x5 x33 x8 μ4))) zX0)))) zX0)) zX0) else (some (.inr (some (zI 0)), μ3)))
set_option maxRecDepth 100000 in
theorem j_Model_reaches_40 (a1 : Int) (a2 : Int) (y0 : Int) (μ : ZMem) : AW cf_Model_reaches S_Model.length S_Model S_Model 40 [(0, zR (some 0)), (1, zI a1), (2, zI a2)] [zI y0, zR (some 0)] μ 0 0 (J_Model_reaches_40 a1 a2 y0 μ) := by
  unfold J_Model_reaches_40
  refine AW.putiL (idx := 93) (ci := 9) (k := 0) (r := 0) (by decide +kernel) rfl rfl rfl (fun μ3 => (?_ : AW _ _ _ _ 43 _ _ _ _ _ _))
  refine AW.aload_n (i := 0) (a := 0) (by decide +kernel) rfl (?_ : AW _ _ _ _ 44 _ _ _ _ _ _)
  refine AW.getI (idx := 93) (ci := 9) (k := 0) (r := 0) (by decide +kernel) rfl rfl rfl (?_ : AW _ _ _ _ 47 _ _ _ _ _ _)
  refine AW.if_le (off := 5) (tgt := 52) (by decide +kernel) (by decide) (fun _ => ?_) (fun _ => ?_)
  · refine AW.aload_n (i := 0) (a := 0) (by decide +kernel) rfl (?_ : AW _ _ _ _ 53 _ _ _ _ _ _)
    refine AW.iload_n (i := 1) (a := a1) (by decide +kernel) rfl (?_ : AW _ _ _ _ 54 _ _ _ _ _ _)
    refine AW.callVw (g := cf_Model_ladderOf) (av := [zI a1]) (b0 := 0) (ci := 9) (idx := 373) (n := 1) (st := []) (by decide +kernel) (fun l hl r hr => c_Model_ladderOf l hl a1 _ r hr) S_Model_wf rfl cal_Model_ladderOf rfl (zw4 zm_X9_373 zi_yX9_ladderOf zs_yX9_ladderOf zn_X9) rfl rfl ⟨by decide, by decide, by decide, by decide⟩ (Nat.le_of_ble_eq_true rfl) (Or.inl rfl) (fun v μ4 => AW.kI (fun x5 => (?_ : AW _ _ _ _ 57 _ _ _ _ _ _)) v)
    refine AW.istore_n' (i := 3) (L' := [(3, zI x5), (0, zR (some 0)), (1, zI a1), (2, zI a2)]) (by decide +kernel) (by decide) rfl (?_ : AW _ _ _ _ 58 _ _ _ _ _ _)
    refine AW.aload_n (i := 0) (a := 0) (by decide +kernel) rfl (?_ : AW _ _ _ _ 59 _ _ _ _ _ _)
    refine AW.getR (idx := 22) (ci := 9) (k := 7) (r := 0) (by decide +kernel) rfl rfl rfl (?_ : AW _ _ _ _ 62 _ _ _ _ _ _)
    refine AW.iload_n (i := 3) (a := x5) (by decide +kernel) rfl (?_ : AW _ _ _ _ 63 _ _ _ _ _ _)
    refine AW.iconst (n := 1) (by decide +kernel) (?_ : AW _ _ _ _ 64 _ _ _ _ _ _)
    refine AW.callP (g := cf_Model_ladderAt) (av := [zI x5, zI 1]) (idx := 141) (n := 2) (st := [zR (some 5)]) (by decide +kernel) (fun l hl r hr => c_Model_ladderAt l hl x5 1 _ r hr) rfl cal_Model_ladderAt rfl (zw3 zm_X9_141 zt_yX9_ladderAt zn_X9) ⟨by decide, by decide, by decide, by decide⟩ (Nat.le_of_ble_eq_true rfl) (fun v _ => AW.kI (fun x7 => (?_ : AW _ _ _ _ 67 _ _ _ _ _ _)) v)
    refine AW.lald (r := 5) (by decide +kernel) rfl (fun x8 => (?_ : AW _ _ _ _ 68 _ _ _ _ _ _))
    refine AW.iload_n (i := 3) (a := x5) (by decide +kernel) rfl (?_ : AW _ _ _ _ 69 _ _ _ _ _ _)
    refine AW.if_le (off := 16) (tgt := 85) (by decide +kernel) (by decide) (fun _ => ?_) (fun _ => ?_)
    · refine AW.lconst0 (by decide +kernel) (?_ : AW _ _ _ _ 86 _ _ _ _ _ _)
      refine AW.sub (L' := [(0, zR (some 0)), (2, zI a2), (3, zI x5)]) [1, 3, 0] rfl ?_
      exact j_Model_reaches_86 a2 x5 0 x8 μ4
    · refine AW.aload_n (i := 0) (a := 0) (by decide +kernel) rfl (?_ : AW _ _ _ _ 73 _ _ _ _ _ _)
      refine AW.getR (idx := 22) (ci := 9) (k := 7) (r := 0) (by decide +kernel) rfl rfl rfl (?_ : AW _ _ _ _ 76 _ _ _ _ _ _)
      refine AW.iconst (n := 1) (by decide +kernel) (?_ : AW _ _ _ _ 77 _ _ _ _ _ _)
      refine AW.iconst (n := 1) (by decide +kernel) (?_ : AW _ _ _ _ 78 _ _ _ _ _ _)
      refine AW.callP (g := cf_Model_ladderAt) (av := [zI 1, zI 1]) (idx := 141) (n := 2) (st := [zR (some 5), zJ x8]) (by decide +kernel) (fun l hl r hr => c_Model_ladderAt l hl 1 1 _ r hr) rfl cal_Model_ladderAt rfl (zw3 zm_X9_141 zt_yX9_ladderAt zn_X9) ⟨by decide, by decide, by decide, by decide⟩ (Nat.le_of_ble_eq_true rfl) (fun v _ => AW.kI (fun x32 => (?_ : AW _ _ _ _ 81 _ _ _ _ _ _)) v)
      refine AW.lald (r := 5) (by decide +kernel) rfl (fun x33 => (?_ : AW _ _ _ _ 82 _ _ _ _ _ _))
      refine AW.goto (off := 4) (tgt := 86) (by decide +kernel) (by decide) ?_
      refine AW.sub (L' := [(0, zR (some 0)), (2, zI a2), (3, zI x5)]) [1, 3, 0] rfl ?_
      exact j_Model_reaches_86 a2 x5 x33 x8 μ4
  · refine AW.iconst (n := 0) (by decide +kernel) (?_ : AW _ _ _ _ 51 _ _ _ _ _ _)
    exact AW.reti (by decide +kernel) rfl (by decide) (by decide)
def F_Model_reaches (a1 : Int) (a2 : Int) (μ : ZMem) : Option ZRes := zC (F_Model_isIn (w32 a1) (-1) (w32 ((μ 0 6) - 1)) μ) (zkI (fun x2 _ => if w32 x2 = 0 then (J_Model_reaches_40 a1 a2 1 μ) else (zC (F_Model_isIn (w32 a2) 0 99999 μ) (zkI (fun x35 _ => if w32 x35 = 0 then (J_Model_reaches_40 a1 a2 2 μ) else (J_Model_reaches_40 a1 a2 0 μ))) zX0))) zX0
set_option maxRecDepth 100000 in
theorem w_Model_reaches (a1 : Int) (a2 : Int) (μ : ZMem) : AW cf_Model_reaches S_Model.length S_Model S_Model 0 [(0, zR (some 0)), (1, zI a1), (2, zI a2)] [] μ 0 0 (F_Model_reaches a1 a2 μ) := by
  unfold F_Model_reaches
  refine AW.aload_n (i := 0) (a := 0) (by decide +kernel) rfl (?_ : AW _ _ _ _ 1 _ _ _ _ _ _)
  refine AW.iload_n (i := 1) (a := a1) (by decide +kernel) rfl (?_ : AW _ _ _ _ 2 _ _ _ _ _ _)
  refine AW.i2l (by decide +kernel) (?_ : AW _ _ _ _ 3 _ _ _ _ _ _)
  refine AW.ldc2 (idx := 127) (v := -1) (by decide +kernel) zk_X9_127 (?_ : AW _ _ _ _ 6 _ _ _ _ _ _)
  refine AW.aload_n (i := 0) (a := 0) (by decide +kernel) rfl (?_ : AW _ _ _ _ 7 _ _ _ _ _ _)
  refine AW.getI (idx := 103) (ci := 9) (k := 6) (r := 0) (by decide +kernel) rfl rfl rfl (?_ : AW _ _ _ _ 10 _ _ _ _ _ _)
  refine AW.iconst (n := 1) (by decide +kernel) (?_ : AW _ _ _ _ 11 _ _ _ _ _ _)
  refine AW.isub (by decide +kernel) (?_ : AW _ _ _ _ 12 _ _ _ _ _ _)
  refine AW.i2l (by decide +kernel) (?_ : AW _ _ _ _ 13 _ _ _ _ _ _)
  refine AW.callP (g := cf_Model_isIn) (av := [zJ (w32 a1), zJ (-1), zJ (w32 ((μ 0 6) - 1))]) (idx := 99) (n := 3) (st := [zR (some 0)]) (by decide +kernel) (fun l hl r hr => c_Model_isIn l hl (w32 a1) (-1) (w32 ((μ 0 6) - 1)) _ r hr) rfl cal_Model_isIn rfl (zw3 zm_X9_99 zt_yX9_isIn zn_X9) ⟨by decide, by decide, by decide, by decide⟩ (Nat.le_of_ble_eq_true rfl) (fun v _ => AW.kI (fun x2 => (?_ : AW _ _ _ _ 16 _ _ _ _ _ _)) v)
  refine AW.if_ne (off := 7) (tgt := 23) (by decide +kernel) (by decide) (fun _ => ?_) (fun _ => ?_)
  · refine AW.iconst (n := 1) (by decide +kernel) (?_ : AW _ _ _ _ 20 _ _ _ _ _ _)
    refine AW.goto (off := 20) (tgt := 40) (by decide +kernel) (by decide) ?_
    exact j_Model_reaches_40 a1 a2 1 μ
  · refine AW.iload_n (i := 2) (a := a2) (by decide +kernel) rfl (?_ : AW _ _ _ _ 24 _ _ _ _ _ _)
    refine AW.i2l (by decide +kernel) (?_ : AW _ _ _ _ 25 _ _ _ _ _ _)
    refine AW.lconst0 (by decide +kernel) (?_ : AW _ _ _ _ 26 _ _ _ _ _ _)
    refine AW.ldc2 (idx := 368) (v := 99999) (by decide +kernel) zk_X9_368 (?_ : AW _ _ _ _ 29 _ _ _ _ _ _)
    refine AW.callP (g := cf_Model_isIn) (av := [zJ (w32 a2), zJ 0, zJ 99999]) (idx := 99) (n := 3) (st := [zR (some 0)]) (by decide +kernel) (fun l hl r hr => c_Model_isIn l hl (w32 a2) 0 99999 _ r hr) rfl cal_Model_isIn rfl (zw3 zm_X9_99 zt_yX9_isIn zn_X9) ⟨by decide, by decide, by decide, by decide⟩ (Nat.le_of_ble_eq_true rfl) (fun v _ => AW.kI (fun x35 => (?_ : AW _ _ _ _ 32 _ _ _ _ _ _)) v)
    refine AW.if_ne (off := 7) (tgt := 39) (by decide +kernel) (by decide) (fun _ => ?_) (fun _ => ?_)
    · refine AW.iconst (n := 2) (by decide +kernel) (?_ : AW _ _ _ _ 36 _ _ _ _ _ _)
      refine AW.goto (off := 4) (tgt := 40) (by decide +kernel) (by decide) ?_
      exact j_Model_reaches_40 a1 a2 2 μ
    · refine AW.iconst (n := 0) (by decide +kernel) (?_ : AW _ _ _ _ 40 _ _ _ _ _ _)
      exact j_Model_reaches_40 a1 a2 0 μ
theorem c_Model_reaches (l : Launch) (hl : l.stackTraces = false) (a1 : Int) (a2 : Int) (μ : ZMem) (r : ZRes) (h : F_Model_reaches a1 a2 μ = some r) : ZC l cf_Model_reaches S_Model S_Model [zR (some 0), zI a1, zI a2] μ r := ZC.of hl (by decide +kernel) rfl rfl zft_X9_ok (Nat.le_of_ble_eq_true rfl) h (w_Model_reaches a1 a2 μ)
/-! WeirLedgerModel.share(III)I -/
def cf_Model_share : ZCf := (yX9_share, cX9_share, 4, some .int, [], 5, 0, 0, zft_X9, none)
theorem cal_Model_share : zCallee cf_Model_share 3 := ⟨rfl, zc_yX9_share, by decide, by decide, by decide +kernel⟩
def J_Model_share_48 (a1 : Int) (a2 : Int) (a3 : Int) (y0 : Int) (μ : ZMem) : Option ZRes := zLet (zUp μ 0 0 y0) (fun μ3 => if w32 (μ3 0 0) ≤ 0 then (zC (F_Model_byWeights (w32 a3) a2 μ3) (zkV (fun μ4 => zRd μ4 20 6 a1 (fun x6 => some (.inr (some (zI x6)), μ4)))) zX0) else (some (.inr (some (zI 0)), μ3)))
set_option maxRecDepth 100000 in
theorem j_Model_share_48 (a1 : Int) (a2 : Int) (a3 : Int) (y0 : Int) (μ : ZMem) : AW cf_Model_share S_Model.length S_Model S_Model 48 [(0, zR (some 0)), (1, zI a1), (2, zI a2), (3, zI a3)] [zI y0, zR (some 0)] μ 0 0 (J_Model_share_48 a1 a2 a3 y0 μ) := by
  unfold J_Model_share_48
  refine AW.putiL (idx := 93) (ci := 9) (k := 0) (r := 0) (by decide +kernel) rfl rfl rfl (fun μ3 => (?_ : AW _ _ _ _ 51 _ _ _ _ _ _))
  refine AW.aload_n (i := 0) (a := 0) (by decide +kernel) rfl (?_ : AW _ _ _ _ 52 _ _ _ _ _ _)
  refine AW.getI (idx := 93) (ci := 9) (k := 0) (r := 0) (by decide +kernel) rfl rfl rfl (?_ : AW _ _ _ _ 55 _ _ _ _ _ _)
  refine AW.if_le (off := 5) (tgt := 60) (by decide +kernel) (by decide) (fun _ => ?_) (fun _ => ?_)
  · refine AW.aload_n (i := 0) (a := 0) (by decide +kernel) rfl (?_ : AW _ _ _ _ 61 _ _ _ _ _ _)
    refine AW.iload_n (i := 3) (a := a3) (by decide +kernel) rfl (?_ : AW _ _ _ _ 62 _ _ _ _ _ _)
    refine AW.i2l (by decide +kernel) (?_ : AW _ _ _ _ 63 _ _ _ _ _ _)
    refine AW.iload_n (i := 2) (a := a2) (by decide +kernel) rfl (?_ : AW _ _ _ _ 64 _ _ _ _ _ _)
    refine AW.callVw (g := cf_Model_byWeights) (av := [zJ (w32 a3), zI a2]) (b0 := 0) (ci := 9) (idx := 137) (n := 2) (st := []) (by decide +kernel) (fun l hl r hr => c_Model_byWeights l hl (w32 a3) a2 _ r hr) S_Model_wf rfl cal_Model_byWeights rfl (zw4 zm_X9_137 zi_yX9_byWeights zs_yX9_byWeights zn_X9) rfl rfl ⟨by decide, by decide, by decide, by decide⟩ (Nat.le_of_ble_eq_true rfl) (Or.inl rfl) (fun v μ4 => AW.kV (?_ : AW _ _ _ _ 67 _ _ _ _ _ _) v)
    refine AW.aload_n (i := 0) (a := 0) (by decide +kernel) rfl (?_ : AW _ _ _ _ 68 _ _ _ _ _ _)
    refine AW.getR (idx := 75) (ci := 9) (k := 32) (r := 0) (by decide +kernel) rfl rfl rfl (?_ : AW _ _ _ _ 71 _ _ _ _ _ _)
    refine AW.iload_n (i := 1) (a := a1) (by decide +kernel) rfl (?_ : AW _ _ _ _ 72 _ _ _ _ _ _)
    refine AW.lald (r := 20) (by decide +kernel) rfl (fun x6 => (?_ : AW _ _ _ _ 73 _ _ _ _ _ _))
    refine AW.l2i (by decide +kernel) (?_ : AW _ _ _ _ 74 _ _ _ _ _ _)
    exact AW.reti (by decide +kernel) rfl (by decide) (by decide)
  · refine AW.iconst (n := 0) (by decide +kernel) (?_ : AW _ _ _ _ 59 _ _ _ _ _ _)
    exact AW.reti (by decide +kernel) rfl (by decide) (by decide)
def J_Model_share_27 (a1 : Int) (a2 : Int) (a3 : Int) (μ : ZMem) : Option ZRes := J_Model_share_48 a1 a2 a3 1 μ
set_option maxRecDepth 100000 in
theorem j_Model_share_27 (a1 : Int) (a2 : Int) (a3 : Int) (μ : ZMem) : AW cf_Model_share S_Model.length S_Model S_Model 27 [(0, zR (some 0)), (1, zI a1), (2, zI a2), (3, zI a3)] [zR (some 0)] μ 0 0 (J_Model_share_27 a1 a2 a3 μ) := by
  unfold J_Model_share_27
  refine AW.iconst (n := 1) (by decide +kernel) (?_ : AW _ _ _ _ 28 _ _ _ _ _ _)
  refine AW.goto (off := 20) (tgt := 48) (by decide +kernel) (by decide) ?_
  exact j_Model_share_48 a1 a2 a3 1 μ
def F_Model_share (a1 : Int) (a2 : Int) (a3 : Int) (μ : ZMem) : Option ZRes := zC (F_Model_isInvestor a1 μ) (zkI (fun x2 μ1 => if w32 x2 = 0 then (J_Model_share_27 a1 a2 a3 μ1) else (zC (F_Model_isIn (w32 a2) (-1) (w32 ((μ1 0 6) - 1)) μ1) (zkI (fun x8 _ => if w32 x8 = 0 then (J_Model_share_27 a1 a2 a3 μ1) else (zC (F_Model_isIn (w32 a3) 0 99999 μ1) (zkI (fun x10 _ => if w32 x10 = 0 then (J_Model_share_48 a1 a2 a3 2 μ1) else (J_Model_share_48 a1 a2 a3 0 μ1))) zX0))) zX0))) zX0
set_option maxRecDepth 100000 in
theorem w_Model_share (a1 : Int) (a2 : Int) (a3 : Int) (μ : ZMem) : AW cf_Model_share S_Model.length S_Model S_Model 0 [(0, zR (some 0)), (1, zI a1), (2, zI a2), (3, zI a3)] [] μ 0 0 (F_Model_share a1 a2 a3 μ) := by
  unfold F_Model_share
  refine AW.aload_n (i := 0) (a := 0) (by decide +kernel) rfl (?_ : AW _ _ _ _ 1 _ _ _ _ _ _)
  refine AW.aload_n (i := 0) (a := 0) (by decide +kernel) rfl (?_ : AW _ _ _ _ 2 _ _ _ _ _ _)
  refine AW.iload_n (i := 1) (a := a1) (by decide +kernel) rfl (?_ : AW _ _ _ _ 3 _ _ _ _ _ _)
  refine AW.callVw (g := cf_Model_isInvestor) (av := [zI a1]) (b0 := 0) (ci := 9) (idx := 347) (n := 1) (st := [zR (some 0)]) (by decide +kernel) (fun l hl r hr => c_Model_isInvestor l hl a1 _ r hr) S_Model_wf rfl cal_Model_isInvestor rfl (zw4 zm_X9_347 zi_yX9_isInvestor zs_yX9_isInvestor zn_X9) rfl rfl ⟨by decide, by decide, by decide, by decide⟩ (Nat.le_of_ble_eq_true rfl) (Or.inl rfl) (fun v μ1 => AW.kI (fun x2 => (?_ : AW _ _ _ _ 6 _ _ _ _ _ _)) v)
  refine AW.if_eq (off := 21) (tgt := 27) (by decide +kernel) (by decide) (fun _ => ?_) (fun _ => ?_)
  · exact j_Model_share_27 a1 a2 a3 μ1
  · refine AW.iload_n (i := 2) (a := a2) (by decide +kernel) rfl (?_ : AW _ _ _ _ 10 _ _ _ _ _ _)
    refine AW.i2l (by decide +kernel) (?_ : AW _ _ _ _ 11 _ _ _ _ _ _)
    refine AW.ldc2 (idx := 127) (v := -1) (by decide +kernel) zk_X9_127 (?_ : AW _ _ _ _ 14 _ _ _ _ _ _)
    refine AW.aload_n (i := 0) (a := 0) (by decide +kernel) rfl (?_ : AW _ _ _ _ 15 _ _ _ _ _ _)
    refine AW.getI (idx := 103) (ci := 9) (k := 6) (r := 0) (by decide +kernel) rfl rfl rfl (?_ : AW _ _ _ _ 18 _ _ _ _ _ _)
    refine AW.iconst (n := 1) (by decide +kernel) (?_ : AW _ _ _ _ 19 _ _ _ _ _ _)
    refine AW.isub (by decide +kernel) (?_ : AW _ _ _ _ 20 _ _ _ _ _ _)
    refine AW.i2l (by decide +kernel) (?_ : AW _ _ _ _ 21 _ _ _ _ _ _)
    refine AW.callP (g := cf_Model_isIn) (av := [zJ (w32 a2), zJ (-1), zJ (w32 ((μ1 0 6) - 1))]) (idx := 99) (n := 3) (st := [zR (some 0)]) (by decide +kernel) (fun l hl r hr => c_Model_isIn l hl (w32 a2) (-1) (w32 ((μ1 0 6) - 1)) _ r hr) rfl cal_Model_isIn rfl (zw3 zm_X9_99 zt_yX9_isIn zn_X9) ⟨by decide, by decide, by decide, by decide⟩ (Nat.le_of_ble_eq_true rfl) (fun v _ => AW.kI (fun x8 => (?_ : AW _ _ _ _ 24 _ _ _ _ _ _)) v)
    refine AW.if_ne (off := 7) (tgt := 31) (by decide +kernel) (by decide) (fun _ => ?_) (fun _ => ?_)
    · exact j_Model_share_27 a1 a2 a3 μ1
    · refine AW.iload_n (i := 3) (a := a3) (by decide +kernel) rfl (?_ : AW _ _ _ _ 32 _ _ _ _ _ _)
      refine AW.i2l (by decide +kernel) (?_ : AW _ _ _ _ 33 _ _ _ _ _ _)
      refine AW.lconst0 (by decide +kernel) (?_ : AW _ _ _ _ 34 _ _ _ _ _ _)
      refine AW.ldc2 (idx := 368) (v := 99999) (by decide +kernel) zk_X9_368 (?_ : AW _ _ _ _ 37 _ _ _ _ _ _)
      refine AW.callP (g := cf_Model_isIn) (av := [zJ (w32 a3), zJ 0, zJ 99999]) (idx := 99) (n := 3) (st := [zR (some 0)]) (by decide +kernel) (fun l hl r hr => c_Model_isIn l hl (w32 a3) 0 99999 _ r hr) rfl cal_Model_isIn rfl (zw3 zm_X9_99 zt_yX9_isIn zn_X9) ⟨by decide, by decide, by decide, by decide⟩ (Nat.le_of_ble_eq_true rfl) (fun v _ => AW.kI (fun x10 => (?_ : AW _ _ _ _ 40 _ _ _ _ _ _)) v)
      refine AW.if_ne (off := 7) (tgt := 47) (by decide +kernel) (by decide) (fun _ => ?_) (fun _ => ?_)
      · refine AW.iconst (n := 2) (by decide +kernel) (?_ : AW _ _ _ _ 44 _ _ _ _ _ _)
        refine AW.goto (off := 4) (tgt := 48) (by decide +kernel) (by decide) ?_
        exact j_Model_share_48 a1 a2 a3 2 μ1
      · refine AW.iconst (n := 0) (by decide +kernel) (?_ : AW _ _ _ _ 48 _ _ _ _ _ _)
        exact j_Model_share_48 a1 a2 a3 0 μ1
theorem c_Model_share (l : Launch) (hl : l.stackTraces = false) (a1 : Int) (a2 : Int) (a3 : Int) (μ : ZMem) (r : ZRes) (h : F_Model_share a1 a2 a3 μ = some r) : ZC l cf_Model_share S_Model S_Model [zR (some 0), zI a1, zI a2, zI a3] μ r := ZC.of hl (by decide +kernel) rfl rfl zft_X9_ok (Nat.le_of_ble_eq_true rfl) h (w_Model_share a1 a2 a3 μ)
/-! WeirLedgerModel.claw0()J -/
def cf_Model_claw0 : ZCf := (yX9_claw0, cX9_claw0, 1, some .long, [], 5, 0, 0, zft_X9, none)
theorem cal_Model_claw0 : zCallee cf_Model_claw0 0 := ⟨rfl, zc_yX9_claw0, by decide, by decide, by decide +kernel⟩
def F_Model_claw0 (μ : ZMem) : Option ZRes := zRd μ 5 92 91 (fun x1 => if w64 x1 = w64 1 then (some (.inr (some (zJ 0)), μ)) else (zC (F_Model_fromHeld  μ) (zkJ (fun x3 μ2 => zC (F_Model_fromOut  μ2) (zkJ (fun x5 μ4 => some (.inr (some (zJ (x3 + x5))), μ4))) zX0)) zX0))
set_option maxRecDepth 100000 in
theorem w_Model_claw0 (μ : ZMem) : AW cf_Model_claw0 S_Model.length S_Model S_Model 0 [(0, zR (some 0))] [] μ 0 0 (F_Model_claw0 μ) := by
  unfold F_Model_claw0
  refine AW.aload_n (i := 0) (a := 0) (by decide +kernel) rfl (?_ : AW _ _ _ _ 1 _ _ _ _ _ _)
  refine AW.getR (idx := 22) (ci := 9) (k := 7) (r := 0) (by decide +kernel) rfl rfl rfl (?_ : AW _ _ _ _ 4 _ _ _ _ _ _)
  refine AW.bipush (n := 91) (by decide +kernel) (by decide +kernel) (?_ : AW _ _ _ _ 6 _ _ _ _ _ _)
  refine AW.lald (r := 5) (by decide +kernel) rfl (fun x1 => (?_ : AW _ _ _ _ 7 _ _ _ _ _ _))
  refine AW.lconst1 (by decide +kernel) (?_ : AW _ _ _ _ 8 _ _ _ _ _ _)
  refine AW.lcmp_ne (off := 7) (tgt := 16) (by decide +kernel) (by decide +kernel) (by decide) (fun _ => ?_) (fun _ => ?_)
  · refine AW.lconst0 (by decide +kernel) (?_ : AW _ _ _ _ 13 _ _ _ _ _ _)
    refine AW.goto (off := 12) (tgt := 25) (by decide +kernel) (by decide) ?_
    exact AW.retl (by decide +kernel) rfl (by decide) (by decide)
  · refine AW.aload_n (i := 0) (a := 0) (by decide +kernel) rfl (?_ : AW _ _ _ _ 17 _ _ _ _ _ _)
    refine AW.callVw (g := cf_Model_fromHeld) (av := []) (b0 := 0) (ci := 9) (idx := 193) (n := 0) (st := []) (by decide +kernel) (fun l hl r hr => c_Model_fromHeld l hl  _ r hr) S_Model_wf rfl cal_Model_fromHeld rfl (zw4 zm_X9_193 zi_yX9_fromHeld zs_yX9_fromHeld zn_X9) rfl rfl ⟨by decide, by decide, by decide, by decide⟩ (Nat.le_of_ble_eq_true rfl) (Or.inl rfl) (fun v μ2 => AW.kJ (fun x3 => (?_ : AW _ _ _ _ 20 _ _ _ _ _ _)) v)
    refine AW.aload_n (i := 0) (a := 0) (by decide +kernel) rfl (?_ : AW _ _ _ _ 21 _ _ _ _ _ _)
    refine AW.callVw (g := cf_Model_fromOut) (av := []) (b0 := 0) (ci := 9) (idx := 197) (n := 0) (st := [zJ x3]) (by decide +kernel) (fun l hl r hr => c_Model_fromOut l hl  _ r hr) S_Model_wf rfl cal_Model_fromOut rfl (zw4 zm_X9_197 zi_yX9_fromOut zs_yX9_fromOut zn_X9) rfl rfl ⟨by decide, by decide, by decide, by decide⟩ (Nat.le_of_ble_eq_true rfl) (Or.inl rfl) (fun v μ4 => AW.kJ (fun x5 => (?_ : AW _ _ _ _ 24 _ _ _ _ _ _)) v)
    refine AW.ladd (by decide +kernel) (?_ : AW _ _ _ _ 25 _ _ _ _ _ _)
    exact AW.retl (by decide +kernel) rfl (by decide) (by decide)
theorem c_Model_claw0 (l : Launch) (hl : l.stackTraces = false) (μ : ZMem) (r : ZRes) (h : F_Model_claw0 μ = some r) : ZC l cf_Model_claw0 S_Model S_Model [zR (some 0)] μ r := ZC.of hl (by decide +kernel) rfl rfl zft_X9_ok (Nat.le_of_ble_eq_true rfl) h (w_Model_claw0 μ)
/-! WeirLedgerModel.claw()J -/
def cf_Model_claw : ZCf := (yX9_claw, cX9_claw, 1, some .long, [], 6, 0, 0, zft_X9, none)
theorem cal_Model_claw : zCallee cf_Model_claw 0 := ⟨rfl, zc_yX9_claw, by decide, by decide, by decide +kernel⟩
def F_Model_claw (μ : ZMem) : Option ZRes := zLet (zUp μ 0 0 0) (fun μ1 => zC (F_Model_claw0  μ1) (zkJ (fun x3 μ2 => some (.inr (some (zJ x3)), μ2))) zX0)
set_option maxRecDepth 100000 in
theorem w_Model_claw (μ : ZMem) : AW cf_Model_claw S_Model.length S_Model S_Model 0 [(0, zR (some 0))] [] μ 0 0 (F_Model_claw μ) := by
  unfold F_Model_claw
  refine AW.aload_n (i := 0) (a := 0) (by decide +kernel) rfl (?_ : AW _ _ _ _ 1 _ _ _ _ _ _)
  refine AW.iconst (n := 0) (by decide +kernel) (?_ : AW _ _ _ _ 2 _ _ _ _ _ _)
  refine AW.putiL (idx := 93) (ci := 9) (k := 0) (r := 0) (by decide +kernel) rfl rfl rfl (fun μ1 => (?_ : AW _ _ _ _ 5 _ _ _ _ _ _))
  refine AW.aload_n (i := 0) (a := 0) (by decide +kernel) rfl (?_ : AW _ _ _ _ 6 _ _ _ _ _ _)
  refine AW.callVw (g := cf_Model_claw0) (av := []) (b0 := 0) (ci := 9) (idx := 384) (n := 0) (st := []) (by decide +kernel) (fun l hl r hr => c_Model_claw0 l hl  _ r hr) S_Model_wf rfl cal_Model_claw0 rfl (zw4 zm_X9_384 zi_yX9_claw0 zs_yX9_claw0 zn_X9) rfl rfl ⟨by decide, by decide, by decide, by decide⟩ (Nat.le_of_ble_eq_true rfl) (Or.inl rfl) (fun v μ2 => AW.kJ (fun x3 => (?_ : AW _ _ _ _ 9 _ _ _ _ _ _)) v)
  exact AW.retl (by decide +kernel) rfl (by decide) (by decide)
theorem c_Model_claw (l : Launch) (hl : l.stackTraces = false) (μ : ZMem) (r : ZRes) (h : F_Model_claw μ = some r) : ZC l cf_Model_claw S_Model S_Model [zR (some 0)] μ r := ZC.of hl (by decide +kernel) rfl rfl zft_X9_ok (Nat.le_of_ble_eq_true rfl) h (w_Model_claw μ)
/-! WeirLedgerModel.sellsOut()V -/
def cf_Model_sellsOut : ZCf := (yX9_sellsOut, cX9_sellsOut, 2, none, [], 7, 0, 0, zft_X9, none)
theorem cal_Model_sellsOut : zCallee cf_Model_sellsOut 0 := ⟨rfl, zc_yX9_sellsOut, by decide, by decide, by decide +kernel⟩
def J_Model_sellsOut_41 (R : Int → ZMem → Option ZRes) (K : ZMem → Option ZRes) (u1 : Int) (μ : ZMem) : Option ZRes := zLet (u1 + 1) (fun x9 => R x9 μ)
set_option maxRecDepth 100000 in
theorem j_Model_sellsOut_41 {R : Int → ZMem → Option ZRes} {K : ZMem → Option ZRes} (hR : ∀ (v1 : Int) (μ : ZMem), AW cf_Model_sellsOut S_Model.length S_Model S_Model 2 [(0, zR (some 0)), (1, zI v1)] [] μ 0 0 (R v1 μ)) (hK : ∀ (μ : ZMem), AW cf_Model_sellsOut S_Model.length S_Model S_Model 47 [] [] μ 0 0 (K μ)) (u1 : Int) (μ : ZMem) : AW cf_Model_sellsOut S_Model.length S_Model S_Model 41 [(0, zR (some 0)), (1, zI u1)] [] μ 0 0 (J_Model_sellsOut_41 R K u1 μ) := by
  unfold J_Model_sellsOut_41
  refine AW.iincL (i := 1) (n := 1) (a := u1) (L' := fun x9 => [(1, zI x9), (0, zR (some 0))]) (by decide +kernel) rfl (by decide) (fun _ => rfl) (fun x9 => (?_ : AW _ _ _ _ 44 _ _ _ _ _ _))
  refine AW.goto (off := -42) (tgt := 2) (by decide +kernel) (by decide) ?_
  refine AW.sub (L' := [(0, zR (some 0)), (1, zI x9)]) [1, 0] rfl ?_
  exact hR x9 μ
def L_Model_sellsOut_2 (K : ZMem → Option ZRes) : Nat → Int → ZMem → Option ZRes
  | 0, _, _ => none
  | n + 1, v1, μ => if w32 (μ 0 6) ≤ w32 v1 then (K  μ) else (zC (F_Model_dealAt v1 3 μ) (zkI (fun x2 _ => zRd μ 5 92 x2 (fun x3 => if w64 x3 = w64 0 then (zC (F_Model_dealAt v1 2 μ) (zkI (fun x5 _ => zRd μ 5 92 x5 (fun x6 => zC (F_Model_sells v1 x6 1 μ) (zkV (fun μ7 => J_Model_sellsOut_41 (fun v1 μ => L_Model_sellsOut_2 K n v1 μ) K v1 μ7)) zX0))) zX0) else (J_Model_sellsOut_41 (fun v1 μ => L_Model_sellsOut_2 K n v1 μ) K v1 μ)))) zX0)
set_option maxRecDepth 100000 in
theorem l_Model_sellsOut_2 {K : ZMem → Option ZRes} (hK : ∀ (μ : ZMem), AW cf_Model_sellsOut S_Model.length S_Model S_Model 47 [] [] μ 0 0 (K μ)) : ∀ (n : Nat) (v1 : Int) (μ : ZMem), AW cf_Model_sellsOut S_Model.length S_Model S_Model 2 [(0, zR (some 0)), (1, zI v1)] [] μ 0 0 (L_Model_sellsOut_2 K n v1 μ) := by
  intro n
  induction n with
  | zero => intro v1 μ; exact AW.noth
  | succ n ih =>
    intro v1 μ
    rw [L_Model_sellsOut_2]
    refine AW.iload_n (i := 1) (a := v1) (by decide +kernel) rfl (?_ : AW _ _ _ _ 3 _ _ _ _ _ _)
    refine AW.aload_n (i := 0) (a := 0) (by decide +kernel) rfl (?_ : AW _ _ _ _ 4 _ _ _ _ _ _)
    refine AW.getI (idx := 103) (ci := 9) (k := 6) (r := 0) (by decide +kernel) rfl rfl rfl (?_ : AW _ _ _ _ 7 _ _ _ _ _ _)
    refine AW.icmp_ge (off := 40) (tgt := 47) (by decide +kernel) (by decide) (fun _ => ?_) (fun _ => ?_)
    · refine AW.sub (L' := []) [] rfl ?_
      exact hK  μ
    · refine AW.aload_n (i := 0) (a := 0) (by decide +kernel) rfl (?_ : AW _ _ _ _ 11 _ _ _ _ _ _)
      refine AW.getR (idx := 22) (ci := 9) (k := 7) (r := 0) (by decide +kernel) rfl rfl rfl (?_ : AW _ _ _ _ 14 _ _ _ _ _ _)
      refine AW.iload_n (i := 1) (a := v1) (by decide +kernel) rfl (?_ : AW _ _ _ _ 15 _ _ _ _ _ _)
      refine AW.iconst (n := 3) (by decide +kernel) (?_ : AW _ _ _ _ 16 _ _ _ _ _ _)
      refine AW.callP (g := cf_Model_dealAt) (av := [zI v1, zI 3]) (idx := 166) (n := 2) (st := [zR (some 5)]) (by decide +kernel) (fun l hl r hr => c_Model_dealAt l hl v1 3 _ r hr) rfl cal_Model_dealAt rfl (zw3 zm_X9_166 zt_yX9_dealAt zn_X9) ⟨by decide, by decide, by decide, by decide⟩ (Nat.le_of_ble_eq_true rfl) (fun v _ => AW.kI (fun x2 => (?_ : AW _ _ _ _ 19 _ _ _ _ _ _)) v)
      refine AW.lald (r := 5) (by decide +kernel) rfl (fun x3 => (?_ : AW _ _ _ _ 20 _ _ _ _ _ _))
      refine AW.lconst0 (by decide +kernel) (?_ : AW _ _ _ _ 21 _ _ _ _ _ _)
      refine AW.lcmp_ne (off := 19) (tgt := 41) (by decide +kernel) (by decide +kernel) (by decide) (fun _ => ?_) (fun _ => ?_)
      · refine AW.aload_n (i := 0) (a := 0) (by decide +kernel) rfl (?_ : AW _ _ _ _ 26 _ _ _ _ _ _)
        refine AW.iload_n (i := 1) (a := v1) (by decide +kernel) rfl (?_ : AW _ _ _ _ 27 _ _ _ _ _ _)
        refine AW.aload_n (i := 0) (a := 0) (by decide +kernel) rfl (?_ : AW _ _ _ _ 28 _ _ _ _ _ _)
        refine AW.getR (idx := 22) (ci := 9) (k := 7) (r := 0) (by decide +kernel) rfl rfl rfl (?_ : AW _ _ _ _ 31 _ _ _ _ _ _)
        refine AW.iload_n (i := 1) (a := v1) (by decide +kernel) rfl (?_ : AW _ _ _ _ 32 _ _ _ _ _ _)
        refine AW.iconst (n := 2) (by decide +kernel) (?_ : AW _ _ _ _ 33 _ _ _ _ _ _)
        refine AW.callP (g := cf_Model_dealAt) (av := [zI v1, zI 2]) (idx := 166) (n := 2) (st := [zR (some 5), zI v1, zR (some 0)]) (by decide +kernel) (fun l hl r hr => c_Model_dealAt l hl v1 2 _ r hr) rfl cal_Model_dealAt rfl (zw3 zm_X9_166 zt_yX9_dealAt zn_X9) ⟨by decide, by decide, by decide, by decide⟩ (Nat.le_of_ble_eq_true rfl) (fun v _ => AW.kI (fun x5 => (?_ : AW _ _ _ _ 36 _ _ _ _ _ _)) v)
        refine AW.lald (r := 5) (by decide +kernel) rfl (fun x6 => (?_ : AW _ _ _ _ 37 _ _ _ _ _ _))
        refine AW.iconst (n := 1) (by decide +kernel) (?_ : AW _ _ _ _ 38 _ _ _ _ _ _)
        refine AW.callVw (g := cf_Model_sells) (av := [zI v1, zJ x6, zI 1]) (b0 := 0) (ci := 9) (idx := 204) (n := 3) (st := []) (by decide +kernel) (fun l hl r hr => c_Model_sells l hl v1 x6 1 _ r hr) S_Model_wf rfl cal_Model_sells rfl (zw4 zm_X9_204 zi_yX9_sells zs_yX9_sells zn_X9) rfl rfl ⟨by decide, by decide, by decide, by decide⟩ (Nat.le_of_ble_eq_true rfl) (Or.inl rfl) (fun v μ7 => AW.kV (?_ : AW _ _ _ _ 41 _ _ _ _ _ _) v)
        exact j_Model_sellsOut_41 ih hK v1 μ7
      · exact j_Model_sellsOut_41 ih hK v1 μ
def F_Model_sellsOut (μ : ZMem) : Option ZRes := L_Model_sellsOut_2 (fun μ10 => some (.inr none, μ10)) zN 0 μ
set_option maxRecDepth 100000 in
theorem w_Model_sellsOut (μ : ZMem) : AW cf_Model_sellsOut S_Model.length S_Model S_Model 0 [(0, zR (some 0))] [] μ 0 0 (F_Model_sellsOut μ) := by
  unfold F_Model_sellsOut
  refine AW.iconst (n := 0) (by decide +kernel) (?_ : AW _ _ _ _ 1 _ _ _ _ _ _)
  refine AW.istore_n' (i := 1) (L' := [(1, zI 0), (0, zR (some 0))]) (by decide +kernel) (by decide) rfl (?_ : AW _ _ _ _ 2 _ _ _ _ _ _)
  refine AW.sub (L' := [(0, zR (some 0)), (1, zI 0)]) [1, 0] rfl ?_
  refine l_Model_sellsOut_2 (fun μ10 => ?_) zN _ _
  exact AW.retv (by decide +kernel) rfl (by decide) (by decide)
theorem c_Model_sellsOut (l : Launch) (hl : l.stackTraces = false) (μ : ZMem) (r : ZRes) (h : F_Model_sellsOut μ = some r) : ZC l cf_Model_sellsOut S_Model S_Model [zR (some 0)] μ r := ZC.of hl (by decide +kernel) rfl rfl zft_X9_ok (Nat.le_of_ble_eq_true rfl) h (w_Model_sellsOut μ)
/-! WeirLedgerModel.gotAll()J -/
def cf_Model_gotAll : ZCf := (yX9_gotAll, cX9_gotAll, 4, some .long, [], 3, 0, 0, zft_X9, none)
theorem cal_Model_gotAll : zCallee cf_Model_gotAll 0 := ⟨rfl, zc_yX9_gotAll, by decide, by decide, by decide +kernel⟩
def L_Model_gotAll_4 (μ : ZMem) (K : Int → Option ZRes) : Nat → Int → Int → Option ZRes
  | 0, _, _ => none
  | n + 1, v1, v3 => if w32 (μ 0 5) ≤ w32 v3 then (K v1) else (zC (F_Model_placeOf v3 3 μ) (zkI (fun x2 _ => zRd μ 5 92 x2 (fun x3 => zLet ((v1 + x3)) (fun x4 => zLet (v3 + 1) (fun x5 => L_Model_gotAll_4 μ K n x4 x5))))) zX0)
set_option maxRecDepth 100000 in
theorem l_Model_gotAll_4 {μ : ZMem} {K : Int → Option ZRes} (hK : ∀ (k1 : Int), AW cf_Model_gotAll S_Model.length S_Model S_Model 31 [(1, zJ k1)] [] μ 0 0 (K k1)) : ∀ (n : Nat) (v1 : Int) (v3 : Int), AW cf_Model_gotAll S_Model.length S_Model S_Model 4 [(0, zR (some 0)), (1, zJ v1), (3, zI v3)] [] μ 0 0 (L_Model_gotAll_4 μ K n v1 v3) := by
  intro n
  induction n with
  | zero => intro v1 v3; exact AW.noth
  | succ n ih =>
    intro v1 v3
    rw [L_Model_gotAll_4]
    refine AW.iload_n (i := 3) (a := v3) (by decide +kernel) rfl (?_ : AW _ _ _ _ 5 _ _ _ _ _ _)
    refine AW.aload_n (i := 0) (a := 0) (by decide +kernel) rfl (?_ : AW _ _ _ _ 6 _ _ _ _ _ _)
    refine AW.getI (idx := 96) (ci := 9) (k := 5) (r := 0) (by decide +kernel) rfl rfl rfl (?_ : AW _ _ _ _ 9 _ _ _ _ _ _)
    refine AW.icmp_ge (off := 22) (tgt := 31) (by decide +kernel) (by decide) (fun _ => ?_) (fun _ => ?_)
    · refine AW.sub (L' := [(1, zJ v1)]) [1] rfl ?_
      exact hK v1
    · refine AW.lload_n (i := 1) (a := v1) (by decide +kernel) rfl (?_ : AW _ _ _ _ 13 _ _ _ _ _ _)
      refine AW.aload_n (i := 0) (a := 0) (by decide +kernel) rfl (?_ : AW _ _ _ _ 14 _ _ _ _ _ _)
      refine AW.getR (idx := 22) (ci := 9) (k := 7) (r := 0) (by decide +kernel) rfl rfl rfl (?_ : AW _ _ _ _ 17 _ _ _ _ _ _)
      refine AW.iload_n (i := 3) (a := v3) (by decide +kernel) rfl (?_ : AW _ _ _ _ 18 _ _ _ _ _ _)
      refine AW.iconst (n := 3) (by decide +kernel) (?_ : AW _ _ _ _ 19 _ _ _ _ _ _)
      refine AW.callP (g := cf_Model_placeOf) (av := [zI v3, zI 3]) (idx := 110) (n := 2) (st := [zR (some 5), zJ v1]) (by decide +kernel) (fun l hl r hr => c_Model_placeOf l hl v3 3 _ r hr) rfl cal_Model_placeOf rfl (zw3 zm_X9_110 zt_yX9_placeOf zn_X9) ⟨by decide, by decide, by decide, by decide⟩ (Nat.le_of_ble_eq_true rfl) (fun v _ => AW.kI (fun x2 => (?_ : AW _ _ _ _ 22 _ _ _ _ _ _)) v)
      refine AW.lald (r := 5) (by decide +kernel) rfl (fun x3 => (?_ : AW _ _ _ _ 23 _ _ _ _ _ _))
      refine AW.ladd (by decide +kernel) (?_ : AW _ _ _ _ 24 _ _ _ _ _ _)
      refine AW.lstoreL_n (i := 1) (L' := fun x4 => [(1, zJ x4), (0, zR (some 0)), (3, zI v3)]) (by decide +kernel) (by decide) (fun _ => rfl) (fun x4 => (?_ : AW _ _ _ _ 25 _ _ _ _ _ _))
      refine AW.iincL (i := 3) (n := 1) (a := v3) (L' := fun x5 => [(3, zI x5), (1, zJ x4), (0, zR (some 0))]) (by decide +kernel) rfl (by decide) (fun _ => rfl) (fun x5 => (?_ : AW _ _ _ _ 28 _ _ _ _ _ _))
      refine AW.goto (off := -24) (tgt := 4) (by decide +kernel) (by decide) ?_
      refine AW.sub (L' := [(0, zR (some 0)), (1, zJ x4), (3, zI x5)]) [2, 1, 0] rfl ?_
      exact ih x4 x5
def F_Model_gotAll (μ : ZMem) : Option ZRes := L_Model_gotAll_4 μ (fun k6 => some (.inr (some (zJ k6)), μ)) zN 0 0
set_option maxRecDepth 100000 in
theorem w_Model_gotAll (μ : ZMem) : AW cf_Model_gotAll S_Model.length S_Model S_Model 0 [(0, zR (some 0))] [] μ 0 0 (F_Model_gotAll μ) := by
  unfold F_Model_gotAll
  refine AW.lconst0 (by decide +kernel) (?_ : AW _ _ _ _ 1 _ _ _ _ _ _)
  refine AW.lstore_n' (i := 1) (L' := [(1, zJ 0), (0, zR (some 0))]) (by decide +kernel) (by decide) rfl (?_ : AW _ _ _ _ 2 _ _ _ _ _ _)
  refine AW.iconst (n := 0) (by decide +kernel) (?_ : AW _ _ _ _ 3 _ _ _ _ _ _)
  refine AW.istore_n' (i := 3) (L' := [(3, zI 0), (1, zJ 0), (0, zR (some 0))]) (by decide +kernel) (by decide) rfl (?_ : AW _ _ _ _ 4 _ _ _ _ _ _)
  refine AW.sub (L' := [(0, zR (some 0)), (1, zJ 0), (3, zI 0)]) [2, 1, 0] rfl ?_
  refine l_Model_gotAll_4 (fun k6 => ?_) zN _ _
  refine AW.lload_n (i := 1) (a := k6) (by decide +kernel) rfl (?_ : AW _ _ _ _ 32 _ _ _ _ _ _)
  exact AW.retl (by decide +kernel) rfl (by decide) (by decide)
theorem c_Model_gotAll (l : Launch) (hl : l.stackTraces = false) (μ : ZMem) (r : ZRes) (h : F_Model_gotAll μ = some r) : ZC l cf_Model_gotAll S_Model S_Model [zR (some 0)] μ r := ZC.of hl (by decide +kernel) rfl rfl zft_X9_ok (Nat.le_of_ble_eq_true rfl) h (w_Model_gotAll μ)
/-! WeirLedgerModel.soldOut(I)J -/
def cf_Model_soldOut : ZCf := (yX9_soldOut, cX9_soldOut, 6, some .long, [], 8, 0, 0, zft_X9, none)
theorem cal_Model_soldOut : zCallee cf_Model_soldOut 1 := ⟨rfl, zc_yX9_soldOut, by decide, by decide, by decide +kernel⟩
def J_Model_soldOut_96 (u4 : Int) (μ : ZMem) : Option ZRes := zC (F_Model_comesBack  μ) (zkV (fun μ13 => some (.inr (some (zJ u4)), μ13))) zX0
set_option maxRecDepth 100000 in
theorem j_Model_soldOut_96 (u4 : Int) (μ : ZMem) : AW cf_Model_soldOut S_Model.length S_Model S_Model 96 [(0, zR (some 0)), (4, zJ u4)] [] μ 0 0 (J_Model_soldOut_96 u4 μ) := by
  unfold J_Model_soldOut_96
  refine AW.aload_n (i := 0) (a := 0) (by decide +kernel) rfl (?_ : AW _ _ _ _ 97 _ _ _ _ _ _)
  refine AW.callVw (g := cf_Model_comesBack) (av := []) (b0 := 0) (ci := 9) (idx := 377) (n := 0) (st := []) (by decide +kernel) (fun l hl r hr => c_Model_comesBack l hl  _ r hr) S_Model_wf rfl cal_Model_comesBack rfl (zw4 zm_X9_377 zi_yX9_comesBack zs_yX9_comesBack zn_X9) rfl rfl ⟨by decide, by decide, by decide, by decide⟩ (Nat.le_of_ble_eq_true rfl) (Or.inl rfl) (fun v μ13 => AW.kV (?_ : AW _ _ _ _ 100 _ _ _ _ _ _) v)
  refine AW.lload (i := 4) (a := u4) (by decide +kernel) rfl (?_ : AW _ _ _ _ 102 _ _ _ _ _ _)
  exact AW.retl (by decide +kernel) rfl (by decide) (by decide)
def J_Model_soldOut_18 (a1 : Int) (y0 : Int) (μ : ZMem) : Option ZRes := zLet (zUp μ 0 0 y0) (fun μ3 => if w32 (μ3 0 0) ≤ 0 then (zC (F_Model_putsAside  μ3) (zkV (fun μ4 => zC (F_Model_sellsOut  μ4) (zkV (fun μ6 => zC (F_Model_gotAll  μ6) (zkJ (fun x9 μ8 => if w32 a1 = 0 then (zRd μ8 5 92 86 (fun x12 => J_Model_soldOut_96 x12 μ8)) else (if w32 a1 = 1 then (zC (F_Model_claw0  μ8) (zkJ (fun x18 μ17 => J_Model_soldOut_96 x18 μ17)) zX0) else (J_Model_soldOut_96 x9 μ8)))) zX0)) zX0)) zX0) else (some (.inr (some (zJ 0)), μ3)))
set_option maxRecDepth 100000 in
theorem j_Model_soldOut_18 (a1 : Int) (y0 : Int) (μ : ZMem) : AW cf_Model_soldOut S_Model.length S_Model S_Model 18 [(0, zR (some 0)), (1, zI a1)] [zI y0, zR (some 0)] μ 0 0 (J_Model_soldOut_18 a1 y0 μ) := by
  unfold J_Model_soldOut_18
  refine AW.putiL (idx := 93) (ci := 9) (k := 0) (r := 0) (by decide +kernel) rfl rfl rfl (fun μ3 => (?_ : AW _ _ _ _ 21 _ _ _ _ _ _))
  refine AW.aload_n (i := 0) (a := 0) (by decide +kernel) rfl (?_ : AW _ _ _ _ 22 _ _ _ _ _ _)
  refine AW.getI (idx := 93) (ci := 9) (k := 0) (r := 0) (by decide +kernel) rfl rfl rfl (?_ : AW _ _ _ _ 25 _ _ _ _ _ _)
  refine AW.if_le (off := 5) (tgt := 30) (by decide +kernel) (by decide) (fun _ => ?_) (fun _ => ?_)
  · refine AW.aload_n (i := 0) (a := 0) (by decide +kernel) rfl (?_ : AW _ _ _ _ 31 _ _ _ _ _ _)
    refine AW.callVw (g := cf_Model_putsAside) (av := []) (b0 := 0) (ci := 9) (idx := 370) (n := 0) (st := []) (by decide +kernel) (fun l hl r hr => c_Model_putsAside l hl  _ r hr) S_Model_wf rfl cal_Model_putsAside rfl (zw4 zm_X9_370 zi_yX9_putsAside zs_yX9_putsAside zn_X9) rfl rfl ⟨by decide, by decide, by decide, by decide⟩ (Nat.le_of_ble_eq_true rfl) (Or.inl rfl) (fun v μ4 => AW.kV (?_ : AW _ _ _ _ 34 _ _ _ _ _ _) v)
    refine AW.aload_n (i := 0) (a := 0) (by decide +kernel) rfl (?_ : AW _ _ _ _ 35 _ _ _ _ _ _)
    refine AW.callVw (g := cf_Model_sellsOut) (av := []) (b0 := 0) (ci := 9) (idx := 387) (n := 0) (st := []) (by decide +kernel) (fun l hl r hr => c_Model_sellsOut l hl  _ r hr) S_Model_wf rfl cal_Model_sellsOut rfl (zw4 zm_X9_387 zi_yX9_sellsOut zs_yX9_sellsOut zn_X9) rfl rfl ⟨by decide, by decide, by decide, by decide⟩ (Nat.le_of_ble_eq_true rfl) (Or.inl rfl) (fun v μ6 => AW.kV (?_ : AW _ _ _ _ 38 _ _ _ _ _ _) v)
    refine AW.aload_n (i := 0) (a := 0) (by decide +kernel) rfl (?_ : AW _ _ _ _ 39 _ _ _ _ _ _)
    refine AW.callVw (g := cf_Model_gotAll) (av := []) (b0 := 0) (ci := 9) (idx := 390) (n := 0) (st := []) (by decide +kernel) (fun l hl r hr => c_Model_gotAll l hl  _ r hr) S_Model_wf rfl cal_Model_gotAll rfl (zw4 zm_X9_390 zi_yX9_gotAll zs_yX9_gotAll zn_X9) rfl rfl ⟨by decide, by decide, by decide, by decide⟩ (Nat.le_of_ble_eq_true rfl) (Or.inl rfl) (fun v μ8 => AW.kJ (fun x9 => (?_ : AW _ _ _ _ 42 _ _ _ _ _ _)) v)
    refine AW.lstore_n' (i := 2) (L' := [(2, zJ x9), (0, zR (some 0)), (1, zI a1)]) (by decide +kernel) (by decide) rfl (?_ : AW _ _ _ _ 43 _ _ _ _ _ _)
    refine AW.iload_n (i := 1) (a := a1) (by decide +kernel) rfl (?_ : AW _ _ _ _ 44 _ _ _ _ _ _)
    refine AW.two' (cnd := w32 a1 = 0) (fun h11 => ?_) (fun h10 => ?_)
    · refine AW.lsw (dflt := 49) (ps := #[(0, 28), (1, 40)]) (len := 28) (off := 28) (tgt := 72) (by decide +kernel) (by decide) (zofs_hit h11) (by decide) ?_
      refine AW.aload_n (i := 0) (a := 0) (by decide +kernel) rfl (?_ : AW _ _ _ _ 73 _ _ _ _ _ _)
      refine AW.getR (idx := 22) (ci := 9) (k := 7) (r := 0) (by decide +kernel) rfl rfl rfl (?_ : AW _ _ _ _ 76 _ _ _ _ _ _)
      refine AW.bipush (n := 86) (by decide +kernel) (by decide +kernel) (?_ : AW _ _ _ _ 78 _ _ _ _ _ _)
      refine AW.lald (r := 5) (by decide +kernel) rfl (fun x12 => (?_ : AW _ _ _ _ 79 _ _ _ _ _ _))
      refine AW.lstore' (i := 4) (L' := [(4, zJ x12), (2, zJ x9), (0, zR (some 0)), (1, zI a1)]) (by decide +kernel) (by decide) rfl (?_ : AW _ _ _ _ 81 _ _ _ _ _ _)
      refine AW.goto (off := 15) (tgt := 96) (by decide +kernel) (by decide) ?_
      refine AW.sub (L' := [(0, zR (some 0)), (4, zJ x12)]) [2, 0] rfl ?_
      exact j_Model_soldOut_96 x12 μ8
    refine AW.two' (cnd := w32 a1 = 1) (fun h16 => ?_) (fun h15 => ?_)
    · refine AW.lsw (dflt := 49) (ps := #[(0, 28), (1, 40)]) (len := 28) (off := 40) (tgt := 84) (by decide +kernel) (by decide) (zofs_miss h10 (zofs_hit h16)) (by decide) ?_
      refine AW.aload_n (i := 0) (a := 0) (by decide +kernel) rfl (?_ : AW _ _ _ _ 85 _ _ _ _ _ _)
      refine AW.callVw (g := cf_Model_claw0) (av := []) (b0 := 0) (ci := 9) (idx := 384) (n := 0) (st := []) (by decide +kernel) (fun l hl r hr => c_Model_claw0 l hl  _ r hr) S_Model_wf rfl cal_Model_claw0 rfl (zw4 zm_X9_384 zi_yX9_claw0 zs_yX9_claw0 zn_X9) rfl rfl ⟨by decide, by decide, by decide, by decide⟩ (Nat.le_of_ble_eq_true rfl) (Or.inl rfl) (fun v μ17 => AW.kJ (fun x18 => (?_ : AW _ _ _ _ 88 _ _ _ _ _ _)) v)
      refine AW.lstore' (i := 4) (L' := [(4, zJ x18), (2, zJ x9), (0, zR (some 0)), (1, zI a1)]) (by decide +kernel) (by decide) rfl (?_ : AW _ _ _ _ 90 _ _ _ _ _ _)
      refine AW.goto (off := 6) (tgt := 96) (by decide +kernel) (by decide) ?_
      refine AW.sub (L' := [(0, zR (some 0)), (4, zJ x18)]) [2, 0] rfl ?_
      exact j_Model_soldOut_96 x18 μ17
    refine AW.lsw (dflt := 49) (ps := #[(0, 28), (1, 40)]) (len := 28) (off := 49) (tgt := 93) (by decide +kernel) (by decide) (zofs_miss h10 (zofs_miss h15 (zofs_nil))) (by decide) ?_
    refine AW.lload_n (i := 2) (a := x9) (by decide +kernel) rfl (?_ : AW _ _ _ _ 94 _ _ _ _ _ _)
    refine AW.lstore' (i := 4) (L' := [(4, zJ x9), (2, zJ x9), (0, zR (some 0)), (1, zI a1)]) (by decide +kernel) (by decide) rfl (?_ : AW _ _ _ _ 96 _ _ _ _ _ _)
    refine AW.sub (L' := [(0, zR (some 0)), (4, zJ x9)]) [2, 0] rfl ?_
    exact j_Model_soldOut_96 x9 μ8
  · refine AW.lconst0 (by decide +kernel) (?_ : AW _ _ _ _ 29 _ _ _ _ _ _)
    exact AW.retl (by decide +kernel) rfl (by decide) (by decide)
def F_Model_soldOut (a1 : Int) (μ : ZMem) : Option ZRes := zC (F_Model_isIn (w32 a1) 0 2 μ) (zkI (fun x2 _ => if w32 x2 = 0 then (J_Model_soldOut_18 a1 1 μ) else (J_Model_soldOut_18 a1 0 μ))) zX0
set_option maxRecDepth 100000 in
theorem w_Model_soldOut (a1 : Int) (μ : ZMem) : AW cf_Model_soldOut S_Model.length S_Model S_Model 0 [(0, zR (some 0)), (1, zI a1)] [] μ 0 0 (F_Model_soldOut a1 μ) := by
  unfold F_Model_soldOut
  refine AW.aload_n (i := 0) (a := 0) (by decide +kernel) rfl (?_ : AW _ _ _ _ 1 _ _ _ _ _ _)
  refine AW.iload_n (i := 1) (a := a1) (by decide +kernel) rfl (?_ : AW _ _ _ _ 2 _ _ _ _ _ _)
  refine AW.i2l (by decide +kernel) (?_ : AW _ _ _ _ 3 _ _ _ _ _ _)
  refine AW.lconst0 (by decide +kernel) (?_ : AW _ _ _ _ 4 _ _ _ _ _ _)
  refine AW.ldc2 (idx := 114) (v := 2) (by decide +kernel) zk_X9_114 (?_ : AW _ _ _ _ 7 _ _ _ _ _ _)
  refine AW.callP (g := cf_Model_isIn) (av := [zJ (w32 a1), zJ 0, zJ 2]) (idx := 99) (n := 3) (st := [zR (some 0)]) (by decide +kernel) (fun l hl r hr => c_Model_isIn l hl (w32 a1) 0 2 _ r hr) rfl cal_Model_isIn rfl (zw3 zm_X9_99 zt_yX9_isIn zn_X9) ⟨by decide, by decide, by decide, by decide⟩ (Nat.le_of_ble_eq_true rfl) (fun v _ => AW.kI (fun x2 => (?_ : AW _ _ _ _ 10 _ _ _ _ _ _)) v)
  refine AW.if_eq (off := 7) (tgt := 17) (by decide +kernel) (by decide) (fun _ => ?_) (fun _ => ?_)
  · refine AW.iconst (n := 1) (by decide +kernel) (?_ : AW _ _ _ _ 18 _ _ _ _ _ _)
    exact j_Model_soldOut_18 a1 1 μ
  · refine AW.iconst (n := 0) (by decide +kernel) (?_ : AW _ _ _ _ 14 _ _ _ _ _ _)
    refine AW.goto (off := 4) (tgt := 18) (by decide +kernel) (by decide) ?_
    exact j_Model_soldOut_18 a1 0 μ
theorem c_Model_soldOut (l : Launch) (hl : l.stackTraces = false) (a1 : Int) (μ : ZMem) (r : ZRes) (h : F_Model_soldOut a1 μ = some r) : ZC l cf_Model_soldOut S_Model S_Model [zR (some 0), zI a1] μ r := ZC.of hl (by decide +kernel) rfl rfl zft_X9_ok (Nat.le_of_ble_eq_true rfl) h (w_Model_soldOut a1 μ)
/-! WeirLedgerModel.triesRow()V -/
def cf_Model_triesRow : ZCf := (yX9_triesRow, cX9_triesRow, 4, none, [], 7, 0, 0, zft_X9, none)
theorem cal_Model_triesRow : zCallee cf_Model_triesRow 0 := ⟨rfl, zc_yX9_triesRow, by decide, by decide, by decide +kernel⟩
def L_Model_triesRow_2 (K : ZMem → Option ZRes) : Nat → Int → ZMem → Option ZRes
  | 0, _, _ => none
  | n + 1, v1, μ => if w32 (μ 0 39) ≤ w32 v1 then (K  μ) else (zRd μ 23 6 v1 (fun x1 => zRd μ 23 6 v1 (fun x2 => zC (F_Model_dealAt x2 2 μ) (zkI (fun x4 _ => zRd μ 5 92 x4 (fun x5 => zC (F_Model_sells x1 x5 1 μ) (zkV (fun μ6 => zLet (v1 + 1) (fun x8 => L_Model_triesRow_2 K n x8 μ6))) zX0))) zX0)))
set_option maxRecDepth 100000 in
theorem l_Model_triesRow_2 {K : ZMem → Option ZRes} (hK : ∀ (μ : ZMem), AW cf_Model_triesRow S_Model.length S_Model S_Model 42 [(0, zR (some 0))] [] μ 0 0 (K μ)) : ∀ (n : Nat) (v1 : Int) (μ : ZMem), AW cf_Model_triesRow S_Model.length S_Model S_Model 2 [(0, zR (some 0)), (1, zI v1)] [] μ 0 0 (L_Model_triesRow_2 K n v1 μ) := by
  intro n
  induction n with
  | zero => intro v1 μ; exact AW.noth
  | succ n ih =>
    intro v1 μ
    rw [L_Model_triesRow_2]
    refine AW.iload_n (i := 1) (a := v1) (by decide +kernel) rfl (?_ : AW _ _ _ _ 3 _ _ _ _ _ _)
    refine AW.aload_n (i := 0) (a := 0) (by decide +kernel) rfl (?_ : AW _ _ _ _ 4 _ _ _ _ _ _)
    refine AW.getI (idx := 393) (ci := 9) (k := 39) (r := 0) (by decide +kernel) rfl rfl rfl (?_ : AW _ _ _ _ 7 _ _ _ _ _ _)
    refine AW.icmp_ge (off := 35) (tgt := 42) (by decide +kernel) (by decide) (fun _ => ?_) (fun _ => ?_)
    · refine AW.sub (L' := [(0, zR (some 0))]) [0] rfl ?_
      exact hK  μ
    · refine AW.aload_n (i := 0) (a := 0) (by decide +kernel) rfl (?_ : AW _ _ _ _ 11 _ _ _ _ _ _)
      refine AW.aload_n (i := 0) (a := 0) (by decide +kernel) rfl (?_ : AW _ _ _ _ 12 _ _ _ _ _ _)
      refine AW.getR (idx := 84) (ci := 9) (k := 37) (r := 0) (by decide +kernel) rfl rfl rfl (?_ : AW _ _ _ _ 15 _ _ _ _ _ _)
      refine AW.iload_n (i := 1) (a := v1) (by decide +kernel) rfl (?_ : AW _ _ _ _ 16 _ _ _ _ _ _)
      refine AW.iald (r := 23) (by decide +kernel) rfl (fun x1 => (?_ : AW _ _ _ _ 17 _ _ _ _ _ _))
      refine AW.aload_n (i := 0) (a := 0) (by decide +kernel) rfl (?_ : AW _ _ _ _ 18 _ _ _ _ _ _)
      refine AW.getR (idx := 22) (ci := 9) (k := 7) (r := 0) (by decide +kernel) rfl rfl rfl (?_ : AW _ _ _ _ 21 _ _ _ _ _ _)
      refine AW.aload_n (i := 0) (a := 0) (by decide +kernel) rfl (?_ : AW _ _ _ _ 22 _ _ _ _ _ _)
      refine AW.getR (idx := 84) (ci := 9) (k := 37) (r := 0) (by decide +kernel) rfl rfl rfl (?_ : AW _ _ _ _ 25 _ _ _ _ _ _)
      refine AW.iload_n (i := 1) (a := v1) (by decide +kernel) rfl (?_ : AW _ _ _ _ 26 _ _ _ _ _ _)
      refine AW.iald (r := 23) (by decide +kernel) rfl (fun x2 => (?_ : AW _ _ _ _ 27 _ _ _ _ _ _))
      refine AW.iconst (n := 2) (by decide +kernel) (?_ : AW _ _ _ _ 28 _ _ _ _ _ _)
      refine AW.callP (g := cf_Model_dealAt) (av := [zI x2, zI 2]) (idx := 166) (n := 2) (st := [zR (some 5), zI x1, zR (some 0)]) (by decide +kernel) (fun l hl r hr => c_Model_dealAt l hl x2 2 _ r hr) rfl cal_Model_dealAt rfl (zw3 zm_X9_166 zt_yX9_dealAt zn_X9) ⟨by decide, by decide, by decide, by decide⟩ (Nat.le_of_ble_eq_true rfl) (fun v _ => AW.kI (fun x4 => (?_ : AW _ _ _ _ 31 _ _ _ _ _ _)) v)
      refine AW.lald (r := 5) (by decide +kernel) rfl (fun x5 => (?_ : AW _ _ _ _ 32 _ _ _ _ _ _))
      refine AW.iconst (n := 1) (by decide +kernel) (?_ : AW _ _ _ _ 33 _ _ _ _ _ _)
      refine AW.callVw (g := cf_Model_sells) (av := [zI x1, zJ x5, zI 1]) (b0 := 0) (ci := 9) (idx := 204) (n := 3) (st := []) (by decide +kernel) (fun l hl r hr => c_Model_sells l hl x1 x5 1 _ r hr) S_Model_wf rfl cal_Model_sells rfl (zw4 zm_X9_204 zi_yX9_sells zs_yX9_sells zn_X9) rfl rfl ⟨by decide, by decide, by decide, by decide⟩ (Nat.le_of_ble_eq_true rfl) (Or.inl rfl) (fun v μ6 => AW.kV (?_ : AW _ _ _ _ 36 _ _ _ _ _ _) v)
      refine AW.iincL (i := 1) (n := 1) (a := v1) (L' := fun x8 => [(1, zI x8), (0, zR (some 0))]) (by decide +kernel) rfl (by decide) (fun _ => rfl) (fun x8 => (?_ : AW _ _ _ _ 39 _ _ _ _ _ _))
      refine AW.goto (off := -37) (tgt := 2) (by decide +kernel) (by decide) ?_
      refine AW.sub (L' := [(0, zR (some 0)), (1, zI x8)]) [1, 0] rfl ?_
      exact ih x8 μ6
def L_Model_triesRow_71 (K : ZMem → Option ZRes) : Nat → Int → ZMem → Option ZRes
  | 0, _, _ => none
  | n + 1, v3, μ => if w32 (μ 0 39) ≤ w32 v3 then (K  μ) else (zRd μ 23 6 v3 (fun x14 => zWr μ 24 6 v3 x14 (fun μ15 => zLet (v3 + 1) (fun x16 => L_Model_triesRow_71 K n x16 μ15))))
set_option maxRecDepth 100000 in
theorem l_Model_triesRow_71 {K : ZMem → Option ZRes} (hK : ∀ (μ : ZMem), AW cf_Model_triesRow S_Model.length S_Model S_Model 97 [] [] μ 0 0 (K μ)) : ∀ (n : Nat) (v3 : Int) (μ : ZMem), AW cf_Model_triesRow S_Model.length S_Model S_Model 71 [(0, zR (some 0)), (3, zI v3)] [] μ 0 0 (L_Model_triesRow_71 K n v3 μ) := by
  intro n
  induction n with
  | zero => intro v3 μ; exact AW.noth
  | succ n ih =>
    intro v3 μ
    rw [L_Model_triesRow_71]
    refine AW.iload_n (i := 3) (a := v3) (by decide +kernel) rfl (?_ : AW _ _ _ _ 72 _ _ _ _ _ _)
    refine AW.aload_n (i := 0) (a := 0) (by decide +kernel) rfl (?_ : AW _ _ _ _ 73 _ _ _ _ _ _)
    refine AW.getI (idx := 393) (ci := 9) (k := 39) (r := 0) (by decide +kernel) rfl rfl rfl (?_ : AW _ _ _ _ 76 _ _ _ _ _ _)
    refine AW.icmp_ge (off := 21) (tgt := 97) (by decide +kernel) (by decide) (fun _ => ?_) (fun _ => ?_)
    · refine AW.sub (L' := []) [] rfl ?_
      exact hK  μ
    · refine AW.aload_n (i := 0) (a := 0) (by decide +kernel) rfl (?_ : AW _ _ _ _ 80 _ _ _ _ _ _)
      refine AW.getR (idx := 87) (ci := 9) (k := 38) (r := 0) (by decide +kernel) rfl rfl rfl (?_ : AW _ _ _ _ 83 _ _ _ _ _ _)
      refine AW.iload_n (i := 3) (a := v3) (by decide +kernel) rfl (?_ : AW _ _ _ _ 84 _ _ _ _ _ _)
      refine AW.aload_n (i := 0) (a := 0) (by decide +kernel) rfl (?_ : AW _ _ _ _ 85 _ _ _ _ _ _)
      refine AW.getR (idx := 84) (ci := 9) (k := 37) (r := 0) (by decide +kernel) rfl rfl rfl (?_ : AW _ _ _ _ 88 _ _ _ _ _ _)
      refine AW.iload_n (i := 3) (a := v3) (by decide +kernel) rfl (?_ : AW _ _ _ _ 89 _ _ _ _ _ _)
      refine AW.iald (r := 23) (by decide +kernel) rfl (fun x14 => (?_ : AW _ _ _ _ 90 _ _ _ _ _ _))
      refine AW.iastL (r := 24) (by decide +kernel) rfl (fun μ15 => (?_ : AW _ _ _ _ 91 _ _ _ _ _ _))
      refine AW.iincL (i := 3) (n := 1) (a := v3) (L' := fun x16 => [(3, zI x16), (0, zR (some 0))]) (by decide +kernel) rfl (by decide) (fun _ => rfl) (fun x16 => (?_ : AW _ _ _ _ 94 _ _ _ _ _ _))
      refine AW.goto (off := -23) (tgt := 71) (by decide +kernel) (by decide) ?_
      refine AW.sub (L' := [(0, zR (some 0)), (3, zI x16)]) [1, 0] rfl ?_
      exact ih x16 μ15
def F_Model_triesRow (μ : ZMem) : Option ZRes := L_Model_triesRow_2 (fun μ9 => zRd μ9 5 92 86 (fun x10 => zC (F_Model_comesBack  μ9) (zkV (fun μ11 => if w64 (μ11 0 40) < w64 x10 then (zLet (zUp μ11 0 40 x10) (fun μ13 => L_Model_triesRow_71 (fun μ17 => some (.inr none, μ17)) zN 0 μ13)) else (some (.inr none, μ11)))) zX0)) zN 0 μ
set_option maxRecDepth 100000 in
theorem w_Model_triesRow (μ : ZMem) : AW cf_Model_triesRow S_Model.length S_Model S_Model 0 [(0, zR (some 0))] [] μ 0 0 (F_Model_triesRow μ) := by
  unfold F_Model_triesRow
  refine AW.iconst (n := 0) (by decide +kernel) (?_ : AW _ _ _ _ 1 _ _ _ _ _ _)
  refine AW.istore_n' (i := 1) (L' := [(1, zI 0), (0, zR (some 0))]) (by decide +kernel) (by decide) rfl (?_ : AW _ _ _ _ 2 _ _ _ _ _ _)
  refine AW.sub (L' := [(0, zR (some 0)), (1, zI 0)]) [1, 0] rfl ?_
  refine l_Model_triesRow_2 (fun μ9 => ?_) zN _ _
  refine AW.aload_n (i := 0) (a := 0) (by decide +kernel) rfl (?_ : AW _ _ _ _ 43 _ _ _ _ _ _)
  refine AW.getR (idx := 22) (ci := 9) (k := 7) (r := 0) (by decide +kernel) rfl rfl rfl (?_ : AW _ _ _ _ 46 _ _ _ _ _ _)
  refine AW.bipush (n := 86) (by decide +kernel) (by decide +kernel) (?_ : AW _ _ _ _ 48 _ _ _ _ _ _)
  refine AW.lald (r := 5) (by decide +kernel) rfl (fun x10 => (?_ : AW _ _ _ _ 49 _ _ _ _ _ _))
  refine AW.lstore_n' (i := 1) (L' := [(1, zJ x10), (0, zR (some 0))]) (by decide +kernel) (by decide) rfl (?_ : AW _ _ _ _ 50 _ _ _ _ _ _)
  refine AW.aload_n (i := 0) (a := 0) (by decide +kernel) rfl (?_ : AW _ _ _ _ 51 _ _ _ _ _ _)
  refine AW.callVw (g := cf_Model_comesBack) (av := []) (b0 := 0) (ci := 9) (idx := 377) (n := 0) (st := []) (by decide +kernel) (fun l hl r hr => c_Model_comesBack l hl  _ r hr) S_Model_wf rfl cal_Model_comesBack rfl (zw4 zm_X9_377 zi_yX9_comesBack zs_yX9_comesBack zn_X9) rfl rfl ⟨by decide, by decide, by decide, by decide⟩ (Nat.le_of_ble_eq_true rfl) (Or.inl rfl) (fun v μ11 => AW.kV (?_ : AW _ _ _ _ 54 _ _ _ _ _ _) v)
  refine AW.lload_n (i := 1) (a := x10) (by decide +kernel) rfl (?_ : AW _ _ _ _ 55 _ _ _ _ _ _)
  refine AW.aload_n (i := 0) (a := 0) (by decide +kernel) rfl (?_ : AW _ _ _ _ 56 _ _ _ _ _ _)
  refine AW.getJ (idx := 396) (ci := 9) (k := 40) (r := 0) (by decide +kernel) rfl rfl rfl (?_ : AW _ _ _ _ 59 _ _ _ _ _ _)
  refine AW.lcmp_gt (off := 4) (tgt := 64) (by decide +kernel) (by decide +kernel) (by decide) (fun _ => ?_) (fun _ => ?_)
  · refine AW.aload_n (i := 0) (a := 0) (by decide +kernel) rfl (?_ : AW _ _ _ _ 65 _ _ _ _ _ _)
    refine AW.lload_n (i := 1) (a := x10) (by decide +kernel) rfl (?_ : AW _ _ _ _ 66 _ _ _ _ _ _)
    refine AW.putlL (idx := 396) (ci := 9) (k := 40) (r := 0) (by decide +kernel) rfl rfl rfl (fun μ13 => (?_ : AW _ _ _ _ 69 _ _ _ _ _ _))
    refine AW.iconst (n := 0) (by decide +kernel) (?_ : AW _ _ _ _ 70 _ _ _ _ _ _)
    refine AW.istore_n' (i := 3) (L' := [(3, zI 0), (1, zJ x10), (0, zR (some 0))]) (by decide +kernel) (by decide) rfl (?_ : AW _ _ _ _ 71 _ _ _ _ _ _)
    refine AW.sub (L' := [(0, zR (some 0)), (3, zI 0)]) [2, 0] rfl ?_
    refine l_Model_triesRow_71 (fun μ17 => ?_) zN _ _
    exact AW.retv (by decide +kernel) rfl (by decide) (by decide)
  · exact AW.retv (by decide +kernel) rfl (by decide) (by decide)
theorem c_Model_triesRow (l : Launch) (hl : l.stackTraces = false) (μ : ZMem) (r : ZRes) (h : F_Model_triesRow μ = some r) : ZC l cf_Model_triesRow S_Model S_Model [zR (some 0)] μ r := ZC.of hl (by decide +kernel) rfl rfl zft_X9_ok (Nat.le_of_ble_eq_true rfl) h (w_Model_triesRow μ)
/-! WeirLedgerModel.goesOn(II)V -/
def cf_Model_goesOn_6 : ZCf := (yX9_goesOn, cX9_goesOn, 4, none, [], 8, 0, 0, zft_X9, none)
theorem cal_Model_goesOn_6 : zCallee cf_Model_goesOn_6 2 := ⟨rfl, zc_yX9_goesOn, by decide, by decide, by decide +kernel⟩
def J_Model_goesOn_6_69 (R : Int → ZMem → Option ZRes) (K : ZMem → Option ZRes) (c2 : Int) (u3 : Int) (μ : ZMem) : Option ZRes := zLet (u3 + 1) (fun x3 => R x3 μ)
set_option maxRecDepth 100000 in
theorem j_Model_goesOn_6_69 {R : Int → ZMem → Option ZRes} {K : ZMem → Option ZRes} (c2 : Int) (hR : ∀ (v3 : Int) (μ : ZMem), AW cf_Model_goesOn_6 S_Model.length S_Model S_Model 15 [(0, zR (some 0)), (1, zI 6), (2, zI c2), (3, zI v3)] [] μ 0 0 (R v3 μ)) (hK : ∀ (μ : ZMem), AW cf_Model_goesOn_6 S_Model.length S_Model S_Model 75 [] [] μ 0 0 (K μ)) (u3 : Int) (μ : ZMem) : AW cf_Model_goesOn_6 S_Model.length S_Model S_Model 69 [(0, zR (some 0)), (1, zI 6), (2, zI c2), (3, zI u3)] [] μ 0 0 (J_Model_goesOn_6_69 R K c2 u3 μ) := by
  unfold J_Model_goesOn_6_69
  refine AW.iincL (i := 3) (n := 1) (a := u3) (L' := fun x3 => [(3, zI x3), (0, zR (some 0)), (1, zI 6), (2, zI c2)]) (by decide +kernel) rfl (by decide) (fun _ => rfl) (fun x3 => (?_ : AW _ _ _ _ 72 _ _ _ _ _ _))
  refine AW.goto (off := -57) (tgt := 15) (by decide +kernel) (by decide) ?_
  refine AW.sub (L' := [(0, zR (some 0)), (1, zI 6), (2, zI c2), (3, zI x3)]) [1, 2, 3, 0] rfl ?_
  exact hR x3 μ
def L_Model_goesOn_6_15 (c2 : Int) (K : ZMem → Option ZRes) : Nat → Int → ZMem → Option ZRes
  | 0, _, _ => none
  | n + 1, v3, μ => if w32 (μ 0 6) ≤ w32 v3 then (K  μ) else (if w32 (zand (zshr c2 v3) 1) = w32 1 then (J_Model_goesOn_6_69 (fun v3 μ => L_Model_goesOn_6_15 c2 K n v3 μ) K c2 v3 μ) else (zC (F_Model_dealAt v3 3 μ) (zkI (fun x5 _ => zRd μ 5 92 x5 (fun x6 => if w64 x6 = w64 1 then (J_Model_goesOn_6_69 (fun v3 μ => L_Model_goesOn_6_15 c2 K n v3 μ) K c2 v3 μ) else (zWr μ 23 6 6 v3 (fun μ7 => none))))) zX0))
set_option maxRecDepth 100000 in
theorem l_Model_goesOn_6_15 {c2 : Int} {K : ZMem → Option ZRes} (hK : ∀ (μ : ZMem), AW cf_Model_goesOn_6 S_Model.length S_Model S_Model 75 [] [] μ 0 0 (K μ)) : ∀ (n : Nat) (v3 : Int) (μ : ZMem), AW cf_Model_goesOn_6 S_Model.length S_Model S_Model 15 [(0, zR (some 0)), (1, zI 6), (2, zI c2), (3, zI v3)] [] μ 0 0 (L_Model_goesOn_6_15 c2 K n v3 μ) := by
  intro n
  induction n with
  | zero => intro v3 μ; exact AW.noth
  | succ n ih =>
    intro v3 μ
    rw [L_Model_goesOn_6_15]
    refine AW.iload_n (i := 3) (a := v3) (by decide +kernel) rfl (?_ : AW _ _ _ _ 16 _ _ _ _ _ _)
    refine AW.aload_n (i := 0) (a := 0) (by decide +kernel) rfl (?_ : AW _ _ _ _ 17 _ _ _ _ _ _)
    refine AW.getI (idx := 103) (ci := 9) (k := 6) (r := 0) (by decide +kernel) rfl rfl rfl (?_ : AW _ _ _ _ 20 _ _ _ _ _ _)
    refine AW.icmp_ge (off := 55) (tgt := 75) (by decide +kernel) (by decide) (fun _ => ?_) (fun _ => ?_)
    · refine AW.sub (L' := []) [] rfl ?_
      exact hK  μ
    · refine AW.iload_n (i := 2) (a := c2) (by decide +kernel) rfl (?_ : AW _ _ _ _ 24 _ _ _ _ _ _)
      refine AW.iload_n (i := 3) (a := v3) (by decide +kernel) rfl (?_ : AW _ _ _ _ 25 _ _ _ _ _ _)
      refine AW.ishr (by decide +kernel) (?_ : AW _ _ _ _ 26 _ _ _ _ _ _)
      refine AW.iconst (n := 1) (by decide +kernel) (?_ : AW _ _ _ _ 27 _ _ _ _ _ _)
      refine AW.iand (by decide +kernel) (?_ : AW _ _ _ _ 28 _ _ _ _ _ _)
      refine AW.iconst (n := 1) (by decide +kernel) (?_ : AW _ _ _ _ 29 _ _ _ _ _ _)
      refine AW.icmp_eq (off := 40) (tgt := 69) (by decide +kernel) (by decide) (fun _ => ?_) (fun _ => ?_)
      · exact j_Model_goesOn_6_69 c2 ih hK v3 μ
      · refine AW.aload_n (i := 0) (a := 0) (by decide +kernel) rfl (?_ : AW _ _ _ _ 33 _ _ _ _ _ _)
        refine AW.getR (idx := 22) (ci := 9) (k := 7) (r := 0) (by decide +kernel) rfl rfl rfl (?_ : AW _ _ _ _ 36 _ _ _ _ _ _)
        refine AW.iload_n (i := 3) (a := v3) (by decide +kernel) rfl (?_ : AW _ _ _ _ 37 _ _ _ _ _ _)
        refine AW.iconst (n := 3) (by decide +kernel) (?_ : AW _ _ _ _ 38 _ _ _ _ _ _)
        refine AW.callP (g := cf_Model_dealAt) (av := [zI v3, zI 3]) (idx := 166) (n := 2) (st := [zR (some 5)]) (by decide +kernel) (fun l hl r hr => c_Model_dealAt l hl v3 3 _ r hr) rfl cal_Model_dealAt rfl (zw3 zm_X9_166 zt_yX9_dealAt zn_X9) ⟨by decide, by decide, by decide, by decide⟩ (Nat.le_of_ble_eq_true rfl) (fun v _ => AW.kI (fun x5 => (?_ : AW _ _ _ _ 41 _ _ _ _ _ _)) v)
        refine AW.lald (r := 5) (by decide +kernel) rfl (fun x6 => (?_ : AW _ _ _ _ 42 _ _ _ _ _ _))
        refine AW.lconst1 (by decide +kernel) (?_ : AW _ _ _ _ 43 _ _ _ _ _ _)
        refine AW.lcmp_ne (off := 6) (tgt := 50) (by decide +kernel) (by decide +kernel) (by decide) (fun _ => ?_) (fun _ => ?_)
        · refine AW.goto (off := 22) (tgt := 69) (by decide +kernel) (by decide) ?_
          exact j_Model_goesOn_6_69 c2 ih hK v3 μ
        · refine AW.aload_n (i := 0) (a := 0) (by decide +kernel) rfl (?_ : AW _ _ _ _ 51 _ _ _ _ _ _)
          refine AW.getR (idx := 84) (ci := 9) (k := 37) (r := 0) (by decide +kernel) rfl rfl rfl (?_ : AW _ _ _ _ 54 _ _ _ _ _ _)
          refine AW.iload_n (i := 1) (a := 6) (by decide +kernel) rfl (?_ : AW _ _ _ _ 55 _ _ _ _ _ _)
          refine AW.iload_n (i := 3) (a := v3) (by decide +kernel) rfl (?_ : AW _ _ _ _ 56 _ _ _ _ _ _)
          refine AW.iastL (r := 23) (by decide +kernel) rfl (fun μ7 => (?_ : AW _ _ _ _ 57 _ _ _ _ _ _))
          refine AW.aload_n (i := 0) (a := 0) (by decide +kernel) rfl (?_ : AW _ _ _ _ 58 _ _ _ _ _ _)
          refine AW.iload_n (i := 1) (a := 6) (by decide +kernel) rfl (?_ : AW _ _ _ _ 59 _ _ _ _ _ _)
          refine AW.iconst (n := 1) (by decide +kernel) (?_ : AW _ _ _ _ 60 _ _ _ _ _ _)
          refine AW.iadd (by decide +kernel) (?_ : AW _ _ _ _ 61 _ (zI 7 :: _) _ _ _ _)
          refine AW.iload_n (i := 2) (a := c2) (by decide +kernel) rfl (?_ : AW _ _ _ _ 62 _ _ _ _ _ _)
          refine AW.iconst (n := 1) (by decide +kernel) (?_ : AW _ _ _ _ 63 _ _ _ _ _ _)
          refine AW.iload_n (i := 3) (a := v3) (by decide +kernel) rfl (?_ : AW _ _ _ _ 64 _ _ _ _ _ _)
          refine AW.ishl (by decide +kernel) (?_ : AW _ _ _ _ 65 _ _ _ _ _ _)
          refine AW.ior (by decide +kernel) (?_ : AW _ _ _ _ 66 _ _ _ _ _ _)
          exact AW.noth
def F_Model_goesOn_6 (a2 : Int) (μ : ZMem) : Option ZRes := if w32 6 = w32 (μ 0 39) then (zC (F_Model_triesRow  μ) (zkV (fun μ1 => some (.inr none, μ1))) zX0) else (L_Model_goesOn_6_15 a2 (fun μ8 => some (.inr none, μ8)) zN 0 μ)
set_option maxRecDepth 100000 in
theorem w_Model_goesOn_6 (a2 : Int) (μ : ZMem) : AW cf_Model_goesOn_6 S_Model.length S_Model S_Model 0 [(0, zR (some 0)), (1, zI 6), (2, zI a2)] [] μ 0 0 (F_Model_goesOn_6 a2 μ) := by
  unfold F_Model_goesOn_6
  refine AW.iload_n (i := 1) (a := 6) (by decide +kernel) rfl (?_ : AW _ _ _ _ 1 _ _ _ _ _ _)
  refine AW.aload_n (i := 0) (a := 0) (by decide +kernel) rfl (?_ : AW _ _ _ _ 2 _ _ _ _ _ _)
  refine AW.getI (idx := 393) (ci := 9) (k := 39) (r := 0) (by decide +kernel) rfl rfl rfl (?_ : AW _ _ _ _ 5 _ _ _ _ _ _)
  refine AW.icmp_ne (off := 8) (tgt := 13) (by decide +kernel) (by decide) (fun _ => ?_) (fun _ => ?_)
  · refine AW.aload_n (i := 0) (a := 0) (by decide +kernel) rfl (?_ : AW _ _ _ _ 9 _ _ _ _ _ _)
    refine AW.callVw (g := cf_Model_triesRow) (av := []) (b0 := 0) (ci := 9) (idx := 399) (n := 0) (st := []) (by decide +kernel) (fun l hl r hr => c_Model_triesRow l hl  _ r hr) S_Model_wf rfl cal_Model_triesRow rfl (zw4 zm_X9_399 zi_yX9_triesRow zs_yX9_triesRow zn_X9) rfl rfl ⟨by decide, by decide, by decide, by decide⟩ (Nat.le_of_ble_eq_true rfl) (Or.inl rfl) (fun v μ1 => AW.kV (?_ : AW _ _ _ _ 12 _ _ _ _ _ _) v)
    exact AW.retv (by decide +kernel) rfl (by decide) (by decide)
  · refine AW.iconst (n := 0) (by decide +kernel) (?_ : AW _ _ _ _ 14 _ _ _ _ _ _)
    refine AW.istore_n' (i := 3) (L' := [(3, zI 0), (0, zR (some 0)), (1, zI 6), (2, zI a2)]) (by decide +kernel) (by decide) rfl (?_ : AW _ _ _ _ 15 _ _ _ _ _ _)
    refine AW.sub (L' := [(0, zR (some 0)), (1, zI 6), (2, zI a2), (3, zI 0)]) [1, 2, 3, 0] rfl ?_
    refine l_Model_goesOn_6_15 (fun μ8 => ?_) zN _ _
    exact AW.retv (by decide +kernel) rfl (by decide) (by decide)
theorem c_Model_goesOn_6 (l : Launch) (hl : l.stackTraces = false) (a2 : Int) (μ : ZMem) (r : ZRes) (h : F_Model_goesOn_6 a2 μ = some r) : ZC l cf_Model_goesOn_6 S_Model S_Model [zR (some 0), zI 6, zI a2] μ r := ZC.of hl (by decide +kernel) rfl rfl zft_X9_ok (Nat.le_of_ble_eq_true rfl) h (w_Model_goesOn_6 a2 μ)
/-! WeirLedgerModel.goesOn(II)V -/
def cf_Model_goesOn_5 : ZCf := (yX9_goesOn, cX9_goesOn, 4, none, [], 9, 0, 0, zft_X9, none)
theorem cal_Model_goesOn_5 : zCallee cf_Model_goesOn_5 2 := ⟨rfl, zc_yX9_goesOn, by decide, by decide, by decide +kernel⟩
def J_Model_goesOn_5_69 (R : Int → ZMem → Option ZRes) (K : ZMem → Option ZRes) (c2 : Int) (u3 : Int) (μ : ZMem) : Option ZRes := zLet (u3 + 1) (fun x3 => R x3 μ)
set_option maxRecDepth 100000 in
theorem j_Model_goesOn_5_69 {R : Int → ZMem → Option ZRes} {K : ZMem → Option ZRes} (c2 : Int) (hR : ∀ (v3 : Int) (μ : ZMem), AW cf_Model_goesOn_5 S_Model.length S_Model S_Model 15 [(0, zR (some 0)), (1, zI 5), (2, zI c2), (3, zI v3)] [] μ 0 0 (R v3 μ)) (hK : ∀ (μ : ZMem), AW cf_Model_goesOn_5 S_Model.length S_Model S_Model 75 [] [] μ 0 0 (K μ)) (u3 : Int) (μ : ZMem) : AW cf_Model_goesOn_5 S_Model.length S_Model S_Model 69 [(0, zR (some 0)), (1, zI 5), (2, zI c2), (3, zI u3)] [] μ 0 0 (J_Model_goesOn_5_69 R K c2 u3 μ) := by
  unfold J_Model_goesOn_5_69
  refine AW.iincL (i := 3) (n := 1) (a := u3) (L' := fun x3 => [(3, zI x3), (0, zR (some 0)), (1, zI 5), (2, zI c2)]) (by decide +kernel) rfl (by decide) (fun _ => rfl) (fun x3 => (?_ : AW _ _ _ _ 72 _ _ _ _ _ _))
  refine AW.goto (off := -57) (tgt := 15) (by decide +kernel) (by decide) ?_
  refine AW.sub (L' := [(0, zR (some 0)), (1, zI 5), (2, zI c2), (3, zI x3)]) [1, 2, 3, 0] rfl ?_
  exact hR x3 μ
def L_Model_goesOn_5_15 (c2 : Int) (K : ZMem → Option ZRes) : Nat → Int → ZMem → Option ZRes
  | 0, _, _ => none
  | n + 1, v3, μ => if w32 (μ 0 6) ≤ w32 v3 then (K  μ) else (if w32 (zand (zshr c2 v3) 1) = w32 1 then (J_Model_goesOn_5_69 (fun v3 μ => L_Model_goesOn_5_15 c2 K n v3 μ) K c2 v3 μ) else (zC (F_Model_dealAt v3 3 μ) (zkI (fun x5 _ => zRd μ 5 92 x5 (fun x6 => if w64 x6 = w64 1 then (J_Model_goesOn_5_69 (fun v3 μ => L_Model_goesOn_5_15 c2 K n v3 μ) K c2 v3 μ) else (zWr μ 23 6 5 v3 (fun μ7 => zC (F_Model_goesOn_6 (zor c2 (zshl 1 v3)) μ7) (zkV (fun μ8 => J_Model_goesOn_5_69 (fun v3 μ => L_Model_goesOn_5_15 c2 K n v3 μ) K c2 v3 μ8)) zX0))))) zX0))
set_option maxRecDepth 100000 in
theorem l_Model_goesOn_5_15 {c2 : Int} {K : ZMem → Option ZRes} (hK : ∀ (μ : ZMem), AW cf_Model_goesOn_5 S_Model.length S_Model S_Model 75 [] [] μ 0 0 (K μ)) : ∀ (n : Nat) (v3 : Int) (μ : ZMem), AW cf_Model_goesOn_5 S_Model.length S_Model S_Model 15 [(0, zR (some 0)), (1, zI 5), (2, zI c2), (3, zI v3)] [] μ 0 0 (L_Model_goesOn_5_15 c2 K n v3 μ) := by
  intro n
  induction n with
  | zero => intro v3 μ; exact AW.noth
  | succ n ih =>
    intro v3 μ
    rw [L_Model_goesOn_5_15]
    refine AW.iload_n (i := 3) (a := v3) (by decide +kernel) rfl (?_ : AW _ _ _ _ 16 _ _ _ _ _ _)
    refine AW.aload_n (i := 0) (a := 0) (by decide +kernel) rfl (?_ : AW _ _ _ _ 17 _ _ _ _ _ _)
    refine AW.getI (idx := 103) (ci := 9) (k := 6) (r := 0) (by decide +kernel) rfl rfl rfl (?_ : AW _ _ _ _ 20 _ _ _ _ _ _)
    refine AW.icmp_ge (off := 55) (tgt := 75) (by decide +kernel) (by decide) (fun _ => ?_) (fun _ => ?_)
    · refine AW.sub (L' := []) [] rfl ?_
      exact hK  μ
    · refine AW.iload_n (i := 2) (a := c2) (by decide +kernel) rfl (?_ : AW _ _ _ _ 24 _ _ _ _ _ _)
      refine AW.iload_n (i := 3) (a := v3) (by decide +kernel) rfl (?_ : AW _ _ _ _ 25 _ _ _ _ _ _)
      refine AW.ishr (by decide +kernel) (?_ : AW _ _ _ _ 26 _ _ _ _ _ _)
      refine AW.iconst (n := 1) (by decide +kernel) (?_ : AW _ _ _ _ 27 _ _ _ _ _ _)
      refine AW.iand (by decide +kernel) (?_ : AW _ _ _ _ 28 _ _ _ _ _ _)
      refine AW.iconst (n := 1) (by decide +kernel) (?_ : AW _ _ _ _ 29 _ _ _ _ _ _)
      refine AW.icmp_eq (off := 40) (tgt := 69) (by decide +kernel) (by decide) (fun _ => ?_) (fun _ => ?_)
      · exact j_Model_goesOn_5_69 c2 ih hK v3 μ
      · refine AW.aload_n (i := 0) (a := 0) (by decide +kernel) rfl (?_ : AW _ _ _ _ 33 _ _ _ _ _ _)
        refine AW.getR (idx := 22) (ci := 9) (k := 7) (r := 0) (by decide +kernel) rfl rfl rfl (?_ : AW _ _ _ _ 36 _ _ _ _ _ _)
        refine AW.iload_n (i := 3) (a := v3) (by decide +kernel) rfl (?_ : AW _ _ _ _ 37 _ _ _ _ _ _)
        refine AW.iconst (n := 3) (by decide +kernel) (?_ : AW _ _ _ _ 38 _ _ _ _ _ _)
        refine AW.callP (g := cf_Model_dealAt) (av := [zI v3, zI 3]) (idx := 166) (n := 2) (st := [zR (some 5)]) (by decide +kernel) (fun l hl r hr => c_Model_dealAt l hl v3 3 _ r hr) rfl cal_Model_dealAt rfl (zw3 zm_X9_166 zt_yX9_dealAt zn_X9) ⟨by decide, by decide, by decide, by decide⟩ (Nat.le_of_ble_eq_true rfl) (fun v _ => AW.kI (fun x5 => (?_ : AW _ _ _ _ 41 _ _ _ _ _ _)) v)
        refine AW.lald (r := 5) (by decide +kernel) rfl (fun x6 => (?_ : AW _ _ _ _ 42 _ _ _ _ _ _))
        refine AW.lconst1 (by decide +kernel) (?_ : AW _ _ _ _ 43 _ _ _ _ _ _)
        refine AW.lcmp_ne (off := 6) (tgt := 50) (by decide +kernel) (by decide +kernel) (by decide) (fun _ => ?_) (fun _ => ?_)
        · refine AW.goto (off := 22) (tgt := 69) (by decide +kernel) (by decide) ?_
          exact j_Model_goesOn_5_69 c2 ih hK v3 μ
        · refine AW.aload_n (i := 0) (a := 0) (by decide +kernel) rfl (?_ : AW _ _ _ _ 51 _ _ _ _ _ _)
          refine AW.getR (idx := 84) (ci := 9) (k := 37) (r := 0) (by decide +kernel) rfl rfl rfl (?_ : AW _ _ _ _ 54 _ _ _ _ _ _)
          refine AW.iload_n (i := 1) (a := 5) (by decide +kernel) rfl (?_ : AW _ _ _ _ 55 _ _ _ _ _ _)
          refine AW.iload_n (i := 3) (a := v3) (by decide +kernel) rfl (?_ : AW _ _ _ _ 56 _ _ _ _ _ _)
          refine AW.iastL (r := 23) (by decide +kernel) rfl (fun μ7 => (?_ : AW _ _ _ _ 57 _ _ _ _ _ _))
          refine AW.aload_n (i := 0) (a := 0) (by decide +kernel) rfl (?_ : AW _ _ _ _ 58 _ _ _ _ _ _)
          refine AW.iload_n (i := 1) (a := 5) (by decide +kernel) rfl (?_ : AW _ _ _ _ 59 _ _ _ _ _ _)
          refine AW.iconst (n := 1) (by decide +kernel) (?_ : AW _ _ _ _ 60 _ _ _ _ _ _)
          refine AW.iadd (by decide +kernel) (?_ : AW _ _ _ _ 61 _ (zI 6 :: _) _ _ _ _)
          refine AW.iload_n (i := 2) (a := c2) (by decide +kernel) rfl (?_ : AW _ _ _ _ 62 _ _ _ _ _ _)
          refine AW.iconst (n := 1) (by decide +kernel) (?_ : AW _ _ _ _ 63 _ _ _ _ _ _)
          refine AW.iload_n (i := 3) (a := v3) (by decide +kernel) rfl (?_ : AW _ _ _ _ 64 _ _ _ _ _ _)
          refine AW.ishl (by decide +kernel) (?_ : AW _ _ _ _ 65 _ _ _ _ _ _)
          refine AW.ior (by decide +kernel) (?_ : AW _ _ _ _ 66 _ _ _ _ _ _)
          refine AW.callVw (g := cf_Model_goesOn_6) (av := [zI 6, zI (zor c2 (zshl 1 v3))]) (b0 := 0) (ci := 9) (idx := 402) (n := 2) (st := []) (by decide +kernel) (fun l hl r hr => c_Model_goesOn_6 l hl (zor c2 (zshl 1 v3)) _ r hr) S_Model_wf rfl cal_Model_goesOn_6 rfl (zw4 zm_X9_402 zi_yX9_goesOn zs_yX9_goesOn zn_X9) rfl rfl ⟨by decide, by decide, by decide, by decide⟩ (Nat.le_of_ble_eq_true rfl) (Or.inl rfl) (fun v μ8 => AW.kV (?_ : AW _ _ _ _ 69 _ _ _ _ _ _) v)
          exact j_Model_goesOn_5_69 c2 ih hK v3 μ8
def F_Model_goesOn_5 (a2 : Int) (μ : ZMem) : Option ZRes := if w32 5 = w32 (μ 0 39) then (zC (F_Model_triesRow  μ) (zkV (fun μ1 => some (.inr none, μ1))) zX0) else (L_Model_goesOn_5_15 a2 (fun μ10 => some (.inr none, μ10)) zN 0 μ)
set_option maxRecDepth 100000 in
theorem w_Model_goesOn_5 (a2 : Int) (μ : ZMem) : AW cf_Model_goesOn_5 S_Model.length S_Model S_Model 0 [(0, zR (some 0)), (1, zI 5), (2, zI a2)] [] μ 0 0 (F_Model_goesOn_5 a2 μ) := by
  unfold F_Model_goesOn_5
  refine AW.iload_n (i := 1) (a := 5) (by decide +kernel) rfl (?_ : AW _ _ _ _ 1 _ _ _ _ _ _)
  refine AW.aload_n (i := 0) (a := 0) (by decide +kernel) rfl (?_ : AW _ _ _ _ 2 _ _ _ _ _ _)
  refine AW.getI (idx := 393) (ci := 9) (k := 39) (r := 0) (by decide +kernel) rfl rfl rfl (?_ : AW _ _ _ _ 5 _ _ _ _ _ _)
  refine AW.icmp_ne (off := 8) (tgt := 13) (by decide +kernel) (by decide) (fun _ => ?_) (fun _ => ?_)
  · refine AW.aload_n (i := 0) (a := 0) (by decide +kernel) rfl (?_ : AW _ _ _ _ 9 _ _ _ _ _ _)
    refine AW.callVw (g := cf_Model_triesRow) (av := []) (b0 := 0) (ci := 9) (idx := 399) (n := 0) (st := []) (by decide +kernel) (fun l hl r hr => c_Model_triesRow l hl  _ r hr) S_Model_wf rfl cal_Model_triesRow rfl (zw4 zm_X9_399 zi_yX9_triesRow zs_yX9_triesRow zn_X9) rfl rfl ⟨by decide, by decide, by decide, by decide⟩ (Nat.le_of_ble_eq_true rfl) (Or.inl rfl) (fun v μ1 => AW.kV (?_ : AW _ _ _ _ 12 _ _ _ _ _ _) v)
    exact AW.retv (by decide +kernel) rfl (by decide) (by decide)
  · refine AW.iconst (n := 0) (by decide +kernel) (?_ : AW _ _ _ _ 14 _ _ _ _ _ _)
    refine AW.istore_n' (i := 3) (L' := [(3, zI 0), (0, zR (some 0)), (1, zI 5), (2, zI a2)]) (by decide +kernel) (by decide) rfl (?_ : AW _ _ _ _ 15 _ _ _ _ _ _)
    refine AW.sub (L' := [(0, zR (some 0)), (1, zI 5), (2, zI a2), (3, zI 0)]) [1, 2, 3, 0] rfl ?_
    refine l_Model_goesOn_5_15 (fun μ10 => ?_) zN _ _
    exact AW.retv (by decide +kernel) rfl (by decide) (by decide)
theorem c_Model_goesOn_5 (l : Launch) (hl : l.stackTraces = false) (a2 : Int) (μ : ZMem) (r : ZRes) (h : F_Model_goesOn_5 a2 μ = some r) : ZC l cf_Model_goesOn_5 S_Model S_Model [zR (some 0), zI 5, zI a2] μ r := ZC.of hl (by decide +kernel) rfl rfl zft_X9_ok (Nat.le_of_ble_eq_true rfl) h (w_Model_goesOn_5 a2 μ)
/-! WeirLedgerModel.goesOn(II)V -/
def cf_Model_goesOn_4 : ZCf := (yX9_goesOn, cX9_goesOn, 4, none, [], 10, 0, 0, zft_X9, none)
theorem cal_Model_goesOn_4 : zCallee cf_Model_goesOn_4 2 := ⟨rfl, zc_yX9_goesOn, by decide, by decide, by decide +kernel⟩
def J_Model_goesOn_4_69 (R : Int → ZMem → Option ZRes) (K : ZMem → Option ZRes) (c2 : Int) (u3 : Int) (μ : ZMem) : Option ZRes := zLet (u3 + 1) (fun x3 => R x3 μ)
set_option maxRecDepth 100000 in
theorem j_Model_goesOn_4_69 {R : Int → ZMem → Option ZRes} {K : ZMem → Option ZRes} (c2 : Int) (hR : ∀ (v3 : Int) (μ : ZMem), AW cf_Model_goesOn_4 S_Model.length S_Model S_Model 15 [(0, zR (some 0)), (1, zI 4), (2, zI c2), (3, zI v3)] [] μ 0 0 (R v3 μ)) (hK : ∀ (μ : ZMem), AW cf_Model_goesOn_4 S_Model.length S_Model S_Model 75 [] [] μ 0 0 (K μ)) (u3 : Int) (μ : ZMem) : AW cf_Model_goesOn_4 S_Model.length S_Model S_Model 69 [(0, zR (some 0)), (1, zI 4), (2, zI c2), (3, zI u3)] [] μ 0 0 (J_Model_goesOn_4_69 R K c2 u3 μ) := by
  unfold J_Model_goesOn_4_69
  refine AW.iincL (i := 3) (n := 1) (a := u3) (L' := fun x3 => [(3, zI x3), (0, zR (some 0)), (1, zI 4), (2, zI c2)]) (by decide +kernel) rfl (by decide) (fun _ => rfl) (fun x3 => (?_ : AW _ _ _ _ 72 _ _ _ _ _ _))
  refine AW.goto (off := -57) (tgt := 15) (by decide +kernel) (by decide) ?_
  refine AW.sub (L' := [(0, zR (some 0)), (1, zI 4), (2, zI c2), (3, zI x3)]) [1, 2, 3, 0] rfl ?_
  exact hR x3 μ
def L_Model_goesOn_4_15 (c2 : Int) (K : ZMem → Option ZRes) : Nat → Int → ZMem → Option ZRes
  | 0, _, _ => none
  | n + 1, v3, μ => if w32 (μ 0 6) ≤ w32 v3 then (K  μ) else (if w32 (zand (zshr c2 v3) 1) = w32 1 then (J_Model_goesOn_4_69 (fun v3 μ => L_Model_goesOn_4_15 c2 K n v3 μ) K c2 v3 μ) else (zC (F_Model_dealAt v3 3 μ) (zkI (fun x5 _ => zRd μ 5 92 x5 (fun x6 => if w64 x6 = w64 1 then (J_Model_goesOn_4_69 (fun v3 μ => L_Model_goesOn_4_15 c2 K n v3 μ) K c2 v3 μ) else (zWr μ 23 6 4 v3 (fun μ7 => zC (F_Model_goesOn_5 (zor c2 (zshl 1 v3)) μ7) (zkV (fun μ8 => J_Model_goesOn_4_69 (fun v3 μ => L_Model_goesOn_4_15 c2 K n v3 μ) K c2 v3 μ8)) zX0))))) zX0))
set_option maxRecDepth 100000 in
theorem l_Model_goesOn_4_15 {c2 : Int} {K : ZMem → Option ZRes} (hK : ∀ (μ : ZMem), AW cf_Model_goesOn_4 S_Model.length S_Model S_Model 75 [] [] μ 0 0 (K μ)) : ∀ (n : Nat) (v3 : Int) (μ : ZMem), AW cf_Model_goesOn_4 S_Model.length S_Model S_Model 15 [(0, zR (some 0)), (1, zI 4), (2, zI c2), (3, zI v3)] [] μ 0 0 (L_Model_goesOn_4_15 c2 K n v3 μ) := by
  intro n
  induction n with
  | zero => intro v3 μ; exact AW.noth
  | succ n ih =>
    intro v3 μ
    rw [L_Model_goesOn_4_15]
    refine AW.iload_n (i := 3) (a := v3) (by decide +kernel) rfl (?_ : AW _ _ _ _ 16 _ _ _ _ _ _)
    refine AW.aload_n (i := 0) (a := 0) (by decide +kernel) rfl (?_ : AW _ _ _ _ 17 _ _ _ _ _ _)
    refine AW.getI (idx := 103) (ci := 9) (k := 6) (r := 0) (by decide +kernel) rfl rfl rfl (?_ : AW _ _ _ _ 20 _ _ _ _ _ _)
    refine AW.icmp_ge (off := 55) (tgt := 75) (by decide +kernel) (by decide) (fun _ => ?_) (fun _ => ?_)
    · refine AW.sub (L' := []) [] rfl ?_
      exact hK  μ
    · refine AW.iload_n (i := 2) (a := c2) (by decide +kernel) rfl (?_ : AW _ _ _ _ 24 _ _ _ _ _ _)
      refine AW.iload_n (i := 3) (a := v3) (by decide +kernel) rfl (?_ : AW _ _ _ _ 25 _ _ _ _ _ _)
      refine AW.ishr (by decide +kernel) (?_ : AW _ _ _ _ 26 _ _ _ _ _ _)
      refine AW.iconst (n := 1) (by decide +kernel) (?_ : AW _ _ _ _ 27 _ _ _ _ _ _)
      refine AW.iand (by decide +kernel) (?_ : AW _ _ _ _ 28 _ _ _ _ _ _)
      refine AW.iconst (n := 1) (by decide +kernel) (?_ : AW _ _ _ _ 29 _ _ _ _ _ _)
      refine AW.icmp_eq (off := 40) (tgt := 69) (by decide +kernel) (by decide) (fun _ => ?_) (fun _ => ?_)
      · exact j_Model_goesOn_4_69 c2 ih hK v3 μ
      · refine AW.aload_n (i := 0) (a := 0) (by decide +kernel) rfl (?_ : AW _ _ _ _ 33 _ _ _ _ _ _)
        refine AW.getR (idx := 22) (ci := 9) (k := 7) (r := 0) (by decide +kernel) rfl rfl rfl (?_ : AW _ _ _ _ 36 _ _ _ _ _ _)
        refine AW.iload_n (i := 3) (a := v3) (by decide +kernel) rfl (?_ : AW _ _ _ _ 37 _ _ _ _ _ _)
        refine AW.iconst (n := 3) (by decide +kernel) (?_ : AW _ _ _ _ 38 _ _ _ _ _ _)
        refine AW.callP (g := cf_Model_dealAt) (av := [zI v3, zI 3]) (idx := 166) (n := 2) (st := [zR (some 5)]) (by decide +kernel) (fun l hl r hr => c_Model_dealAt l hl v3 3 _ r hr) rfl cal_Model_dealAt rfl (zw3 zm_X9_166 zt_yX9_dealAt zn_X9) ⟨by decide, by decide, by decide, by decide⟩ (Nat.le_of_ble_eq_true rfl) (fun v _ => AW.kI (fun x5 => (?_ : AW _ _ _ _ 41 _ _ _ _ _ _)) v)
        refine AW.lald (r := 5) (by decide +kernel) rfl (fun x6 => (?_ : AW _ _ _ _ 42 _ _ _ _ _ _))
        refine AW.lconst1 (by decide +kernel) (?_ : AW _ _ _ _ 43 _ _ _ _ _ _)
        refine AW.lcmp_ne (off := 6) (tgt := 50) (by decide +kernel) (by decide +kernel) (by decide) (fun _ => ?_) (fun _ => ?_)
        · refine AW.goto (off := 22) (tgt := 69) (by decide +kernel) (by decide) ?_
          exact j_Model_goesOn_4_69 c2 ih hK v3 μ
        · refine AW.aload_n (i := 0) (a := 0) (by decide +kernel) rfl (?_ : AW _ _ _ _ 51 _ _ _ _ _ _)
          refine AW.getR (idx := 84) (ci := 9) (k := 37) (r := 0) (by decide +kernel) rfl rfl rfl (?_ : AW _ _ _ _ 54 _ _ _ _ _ _)
          refine AW.iload_n (i := 1) (a := 4) (by decide +kernel) rfl (?_ : AW _ _ _ _ 55 _ _ _ _ _ _)
          refine AW.iload_n (i := 3) (a := v3) (by decide +kernel) rfl (?_ : AW _ _ _ _ 56 _ _ _ _ _ _)
          refine AW.iastL (r := 23) (by decide +kernel) rfl (fun μ7 => (?_ : AW _ _ _ _ 57 _ _ _ _ _ _))
          refine AW.aload_n (i := 0) (a := 0) (by decide +kernel) rfl (?_ : AW _ _ _ _ 58 _ _ _ _ _ _)
          refine AW.iload_n (i := 1) (a := 4) (by decide +kernel) rfl (?_ : AW _ _ _ _ 59 _ _ _ _ _ _)
          refine AW.iconst (n := 1) (by decide +kernel) (?_ : AW _ _ _ _ 60 _ _ _ _ _ _)
          refine AW.iadd (by decide +kernel) (?_ : AW _ _ _ _ 61 _ (zI 5 :: _) _ _ _ _)
          refine AW.iload_n (i := 2) (a := c2) (by decide +kernel) rfl (?_ : AW _ _ _ _ 62 _ _ _ _ _ _)
          refine AW.iconst (n := 1) (by decide +kernel) (?_ : AW _ _ _ _ 63 _ _ _ _ _ _)
          refine AW.iload_n (i := 3) (a := v3) (by decide +kernel) rfl (?_ : AW _ _ _ _ 64 _ _ _ _ _ _)
          refine AW.ishl (by decide +kernel) (?_ : AW _ _ _ _ 65 _ _ _ _ _ _)
          refine AW.ior (by decide +kernel) (?_ : AW _ _ _ _ 66 _ _ _ _ _ _)
          refine AW.callVw (g := cf_Model_goesOn_5) (av := [zI 5, zI (zor c2 (zshl 1 v3))]) (b0 := 0) (ci := 9) (idx := 402) (n := 2) (st := []) (by decide +kernel) (fun l hl r hr => c_Model_goesOn_5 l hl (zor c2 (zshl 1 v3)) _ r hr) S_Model_wf rfl cal_Model_goesOn_5 rfl (zw4 zm_X9_402 zi_yX9_goesOn zs_yX9_goesOn zn_X9) rfl rfl ⟨by decide, by decide, by decide, by decide⟩ (Nat.le_of_ble_eq_true rfl) (Or.inl rfl) (fun v μ8 => AW.kV (?_ : AW _ _ _ _ 69 _ _ _ _ _ _) v)
          exact j_Model_goesOn_4_69 c2 ih hK v3 μ8
def F_Model_goesOn_4 (a2 : Int) (μ : ZMem) : Option ZRes := if w32 4 = w32 (μ 0 39) then (zC (F_Model_triesRow  μ) (zkV (fun μ1 => some (.inr none, μ1))) zX0) else (L_Model_goesOn_4_15 a2 (fun μ10 => some (.inr none, μ10)) zN 0 μ)
set_option maxRecDepth 100000 in
theorem w_Model_goesOn_4 (a2 : Int) (μ : ZMem) : AW cf_Model_goesOn_4 S_Model.length S_Model S_Model 0 [(0, zR (some 0)), (1, zI 4), (2, zI a2)] [] μ 0 0 (F_Model_goesOn_4 a2 μ) := by
  unfold F_Model_goesOn_4
  refine AW.iload_n (i := 1) (a := 4) (by decide +kernel) rfl (?_ : AW _ _ _ _ 1 _ _ _ _ _ _)
  refine AW.aload_n (i := 0) (a := 0) (by decide +kernel) rfl (?_ : AW _ _ _ _ 2 _ _ _ _ _ _)
  refine AW.getI (idx := 393) (ci := 9) (k := 39) (r := 0) (by decide +kernel) rfl rfl rfl (?_ : AW _ _ _ _ 5 _ _ _ _ _ _)
  refine AW.icmp_ne (off := 8) (tgt := 13) (by decide +kernel) (by decide) (fun _ => ?_) (fun _ => ?_)
  · refine AW.aload_n (i := 0) (a := 0) (by decide +kernel) rfl (?_ : AW _ _ _ _ 9 _ _ _ _ _ _)
    refine AW.callVw (g := cf_Model_triesRow) (av := []) (b0 := 0) (ci := 9) (idx := 399) (n := 0) (st := []) (by decide +kernel) (fun l hl r hr => c_Model_triesRow l hl  _ r hr) S_Model_wf rfl cal_Model_triesRow rfl (zw4 zm_X9_399 zi_yX9_triesRow zs_yX9_triesRow zn_X9) rfl rfl ⟨by decide, by decide, by decide, by decide⟩ (Nat.le_of_ble_eq_true rfl) (Or.inl rfl) (fun v μ1 => AW.kV (?_ : AW _ _ _ _ 12 _ _ _ _ _ _) v)
    exact AW.retv (by decide +kernel) rfl (by decide) (by decide)
  · refine AW.iconst (n := 0) (by decide +kernel) (?_ : AW _ _ _ _ 14 _ _ _ _ _ _)
    refine AW.istore_n' (i := 3) (L' := [(3, zI 0), (0, zR (some 0)), (1, zI 4), (2, zI a2)]) (by decide +kernel) (by decide) rfl (?_ : AW _ _ _ _ 15 _ _ _ _ _ _)
    refine AW.sub (L' := [(0, zR (some 0)), (1, zI 4), (2, zI a2), (3, zI 0)]) [1, 2, 3, 0] rfl ?_
    refine l_Model_goesOn_4_15 (fun μ10 => ?_) zN _ _
    exact AW.retv (by decide +kernel) rfl (by decide) (by decide)
theorem c_Model_goesOn_4 (l : Launch) (hl : l.stackTraces = false) (a2 : Int) (μ : ZMem) (r : ZRes) (h : F_Model_goesOn_4 a2 μ = some r) : ZC l cf_Model_goesOn_4 S_Model S_Model [zR (some 0), zI 4, zI a2] μ r := ZC.of hl (by decide +kernel) rfl rfl zft_X9_ok (Nat.le_of_ble_eq_true rfl) h (w_Model_goesOn_4 a2 μ)
/-! WeirLedgerModel.goesOn(II)V -/
def cf_Model_goesOn_3 : ZCf := (yX9_goesOn, cX9_goesOn, 4, none, [], 11, 0, 0, zft_X9, none)
theorem cal_Model_goesOn_3 : zCallee cf_Model_goesOn_3 2 := ⟨rfl, zc_yX9_goesOn, by decide, by decide, by decide +kernel⟩
def J_Model_goesOn_3_69 (R : Int → ZMem → Option ZRes) (K : ZMem → Option ZRes) (c2 : Int) (u3 : Int) (μ : ZMem) : Option ZRes := zLet (u3 + 1) (fun x3 => R x3 μ)
set_option maxRecDepth 100000 in
theorem j_Model_goesOn_3_69 {R : Int → ZMem → Option ZRes} {K : ZMem → Option ZRes} (c2 : Int) (hR : ∀ (v3 : Int) (μ : ZMem), AW cf_Model_goesOn_3 S_Model.length S_Model S_Model 15 [(0, zR (some 0)), (1, zI 3), (2, zI c2), (3, zI v3)] [] μ 0 0 (R v3 μ)) (hK : ∀ (μ : ZMem), AW cf_Model_goesOn_3 S_Model.length S_Model S_Model 75 [] [] μ 0 0 (K μ)) (u3 : Int) (μ : ZMem) : AW cf_Model_goesOn_3 S_Model.length S_Model S_Model 69 [(0, zR (some 0)), (1, zI 3), (2, zI c2), (3, zI u3)] [] μ 0 0 (J_Model_goesOn_3_69 R K c2 u3 μ) := by
  unfold J_Model_goesOn_3_69
  refine AW.iincL (i := 3) (n := 1) (a := u3) (L' := fun x3 => [(3, zI x3), (0, zR (some 0)), (1, zI 3), (2, zI c2)]) (by decide +kernel) rfl (by decide) (fun _ => rfl) (fun x3 => (?_ : AW _ _ _ _ 72 _ _ _ _ _ _))
  refine AW.goto (off := -57) (tgt := 15) (by decide +kernel) (by decide) ?_
  refine AW.sub (L' := [(0, zR (some 0)), (1, zI 3), (2, zI c2), (3, zI x3)]) [1, 2, 3, 0] rfl ?_
  exact hR x3 μ
def L_Model_goesOn_3_15 (c2 : Int) (K : ZMem → Option ZRes) : Nat → Int → ZMem → Option ZRes
  | 0, _, _ => none
  | n + 1, v3, μ => if w32 (μ 0 6) ≤ w32 v3 then (K  μ) else (if w32 (zand (zshr c2 v3) 1) = w32 1 then (J_Model_goesOn_3_69 (fun v3 μ => L_Model_goesOn_3_15 c2 K n v3 μ) K c2 v3 μ) else (zC (F_Model_dealAt v3 3 μ) (zkI (fun x5 _ => zRd μ 5 92 x5 (fun x6 => if w64 x6 = w64 1 then (J_Model_goesOn_3_69 (fun v3 μ => L_Model_goesOn_3_15 c2 K n v3 μ) K c2 v3 μ) else (zWr μ 23 6 3 v3 (fun μ7 => zC (F_Model_goesOn_4 (zor c2 (zshl 1 v3)) μ7) (zkV (fun μ8 => J_Model_goesOn_3_69 (fun v3 μ => L_Model_goesOn_3_15 c2 K n v3 μ) K c2 v3 μ8)) zX0))))) zX0))
set_option maxRecDepth 100000 in
theorem l_Model_goesOn_3_15 {c2 : Int} {K : ZMem → Option ZRes} (hK : ∀ (μ : ZMem), AW cf_Model_goesOn_3 S_Model.length S_Model S_Model 75 [] [] μ 0 0 (K μ)) : ∀ (n : Nat) (v3 : Int) (μ : ZMem), AW cf_Model_goesOn_3 S_Model.length S_Model S_Model 15 [(0, zR (some 0)), (1, zI 3), (2, zI c2), (3, zI v3)] [] μ 0 0 (L_Model_goesOn_3_15 c2 K n v3 μ) := by
  intro n
  induction n with
  | zero => intro v3 μ; exact AW.noth
  | succ n ih =>
    intro v3 μ
    rw [L_Model_goesOn_3_15]
    refine AW.iload_n (i := 3) (a := v3) (by decide +kernel) rfl (?_ : AW _ _ _ _ 16 _ _ _ _ _ _)
    refine AW.aload_n (i := 0) (a := 0) (by decide +kernel) rfl (?_ : AW _ _ _ _ 17 _ _ _ _ _ _)
    refine AW.getI (idx := 103) (ci := 9) (k := 6) (r := 0) (by decide +kernel) rfl rfl rfl (?_ : AW _ _ _ _ 20 _ _ _ _ _ _)
    refine AW.icmp_ge (off := 55) (tgt := 75) (by decide +kernel) (by decide) (fun _ => ?_) (fun _ => ?_)
    · refine AW.sub (L' := []) [] rfl ?_
      exact hK  μ
    · refine AW.iload_n (i := 2) (a := c2) (by decide +kernel) rfl (?_ : AW _ _ _ _ 24 _ _ _ _ _ _)
      refine AW.iload_n (i := 3) (a := v3) (by decide +kernel) rfl (?_ : AW _ _ _ _ 25 _ _ _ _ _ _)
      refine AW.ishr (by decide +kernel) (?_ : AW _ _ _ _ 26 _ _ _ _ _ _)
      refine AW.iconst (n := 1) (by decide +kernel) (?_ : AW _ _ _ _ 27 _ _ _ _ _ _)
      refine AW.iand (by decide +kernel) (?_ : AW _ _ _ _ 28 _ _ _ _ _ _)
      refine AW.iconst (n := 1) (by decide +kernel) (?_ : AW _ _ _ _ 29 _ _ _ _ _ _)
      refine AW.icmp_eq (off := 40) (tgt := 69) (by decide +kernel) (by decide) (fun _ => ?_) (fun _ => ?_)
      · exact j_Model_goesOn_3_69 c2 ih hK v3 μ
      · refine AW.aload_n (i := 0) (a := 0) (by decide +kernel) rfl (?_ : AW _ _ _ _ 33 _ _ _ _ _ _)
        refine AW.getR (idx := 22) (ci := 9) (k := 7) (r := 0) (by decide +kernel) rfl rfl rfl (?_ : AW _ _ _ _ 36 _ _ _ _ _ _)
        refine AW.iload_n (i := 3) (a := v3) (by decide +kernel) rfl (?_ : AW _ _ _ _ 37 _ _ _ _ _ _)
        refine AW.iconst (n := 3) (by decide +kernel) (?_ : AW _ _ _ _ 38 _ _ _ _ _ _)
        refine AW.callP (g := cf_Model_dealAt) (av := [zI v3, zI 3]) (idx := 166) (n := 2) (st := [zR (some 5)]) (by decide +kernel) (fun l hl r hr => c_Model_dealAt l hl v3 3 _ r hr) rfl cal_Model_dealAt rfl (zw3 zm_X9_166 zt_yX9_dealAt zn_X9) ⟨by decide, by decide, by decide, by decide⟩ (Nat.le_of_ble_eq_true rfl) (fun v _ => AW.kI (fun x5 => (?_ : AW _ _ _ _ 41 _ _ _ _ _ _)) v)
        refine AW.lald (r := 5) (by decide +kernel) rfl (fun x6 => (?_ : AW _ _ _ _ 42 _ _ _ _ _ _))
        refine AW.lconst1 (by decide +kernel) (?_ : AW _ _ _ _ 43 _ _ _ _ _ _)
        refine AW.lcmp_ne (off := 6) (tgt := 50) (by decide +kernel) (by decide +kernel) (by decide) (fun _ => ?_) (fun _ => ?_)
        · refine AW.goto (off := 22) (tgt := 69) (by decide +kernel) (by decide) ?_
          exact j_Model_goesOn_3_69 c2 ih hK v3 μ
        · refine AW.aload_n (i := 0) (a := 0) (by decide +kernel) rfl (?_ : AW _ _ _ _ 51 _ _ _ _ _ _)
          refine AW.getR (idx := 84) (ci := 9) (k := 37) (r := 0) (by decide +kernel) rfl rfl rfl (?_ : AW _ _ _ _ 54 _ _ _ _ _ _)
          refine AW.iload_n (i := 1) (a := 3) (by decide +kernel) rfl (?_ : AW _ _ _ _ 55 _ _ _ _ _ _)
          refine AW.iload_n (i := 3) (a := v3) (by decide +kernel) rfl (?_ : AW _ _ _ _ 56 _ _ _ _ _ _)
          refine AW.iastL (r := 23) (by decide +kernel) rfl (fun μ7 => (?_ : AW _ _ _ _ 57 _ _ _ _ _ _))
          refine AW.aload_n (i := 0) (a := 0) (by decide +kernel) rfl (?_ : AW _ _ _ _ 58 _ _ _ _ _ _)
          refine AW.iload_n (i := 1) (a := 3) (by decide +kernel) rfl (?_ : AW _ _ _ _ 59 _ _ _ _ _ _)
          refine AW.iconst (n := 1) (by decide +kernel) (?_ : AW _ _ _ _ 60 _ _ _ _ _ _)
          refine AW.iadd (by decide +kernel) (?_ : AW _ _ _ _ 61 _ (zI 4 :: _) _ _ _ _)
          refine AW.iload_n (i := 2) (a := c2) (by decide +kernel) rfl (?_ : AW _ _ _ _ 62 _ _ _ _ _ _)
          refine AW.iconst (n := 1) (by decide +kernel) (?_ : AW _ _ _ _ 63 _ _ _ _ _ _)
          refine AW.iload_n (i := 3) (a := v3) (by decide +kernel) rfl (?_ : AW _ _ _ _ 64 _ _ _ _ _ _)
          refine AW.ishl (by decide +kernel) (?_ : AW _ _ _ _ 65 _ _ _ _ _ _)
          refine AW.ior (by decide +kernel) (?_ : AW _ _ _ _ 66 _ _ _ _ _ _)
          refine AW.callVw (g := cf_Model_goesOn_4) (av := [zI 4, zI (zor c2 (zshl 1 v3))]) (b0 := 0) (ci := 9) (idx := 402) (n := 2) (st := []) (by decide +kernel) (fun l hl r hr => c_Model_goesOn_4 l hl (zor c2 (zshl 1 v3)) _ r hr) S_Model_wf rfl cal_Model_goesOn_4 rfl (zw4 zm_X9_402 zi_yX9_goesOn zs_yX9_goesOn zn_X9) rfl rfl ⟨by decide, by decide, by decide, by decide⟩ (Nat.le_of_ble_eq_true rfl) (Or.inl rfl) (fun v μ8 => AW.kV (?_ : AW _ _ _ _ 69 _ _ _ _ _ _) v)
          exact j_Model_goesOn_3_69 c2 ih hK v3 μ8
def F_Model_goesOn_3 (a2 : Int) (μ : ZMem) : Option ZRes := if w32 3 = w32 (μ 0 39) then (zC (F_Model_triesRow  μ) (zkV (fun μ1 => some (.inr none, μ1))) zX0) else (L_Model_goesOn_3_15 a2 (fun μ10 => some (.inr none, μ10)) zN 0 μ)
set_option maxRecDepth 100000 in
theorem w_Model_goesOn_3 (a2 : Int) (μ : ZMem) : AW cf_Model_goesOn_3 S_Model.length S_Model S_Model 0 [(0, zR (some 0)), (1, zI 3), (2, zI a2)] [] μ 0 0 (F_Model_goesOn_3 a2 μ) := by
  unfold F_Model_goesOn_3
  refine AW.iload_n (i := 1) (a := 3) (by decide +kernel) rfl (?_ : AW _ _ _ _ 1 _ _ _ _ _ _)
  refine AW.aload_n (i := 0) (a := 0) (by decide +kernel) rfl (?_ : AW _ _ _ _ 2 _ _ _ _ _ _)
  refine AW.getI (idx := 393) (ci := 9) (k := 39) (r := 0) (by decide +kernel) rfl rfl rfl (?_ : AW _ _ _ _ 5 _ _ _ _ _ _)
  refine AW.icmp_ne (off := 8) (tgt := 13) (by decide +kernel) (by decide) (fun _ => ?_) (fun _ => ?_)
  · refine AW.aload_n (i := 0) (a := 0) (by decide +kernel) rfl (?_ : AW _ _ _ _ 9 _ _ _ _ _ _)
    refine AW.callVw (g := cf_Model_triesRow) (av := []) (b0 := 0) (ci := 9) (idx := 399) (n := 0) (st := []) (by decide +kernel) (fun l hl r hr => c_Model_triesRow l hl  _ r hr) S_Model_wf rfl cal_Model_triesRow rfl (zw4 zm_X9_399 zi_yX9_triesRow zs_yX9_triesRow zn_X9) rfl rfl ⟨by decide, by decide, by decide, by decide⟩ (Nat.le_of_ble_eq_true rfl) (Or.inl rfl) (fun v μ1 => AW.kV (?_ : AW _ _ _ _ 12 _ _ _ _ _ _) v)
    exact AW.retv (by decide +kernel) rfl (by decide) (by decide)
  · refine AW.iconst (n := 0) (by decide +kernel) (?_ : AW _ _ _ _ 14 _ _ _ _ _ _)
    refine AW.istore_n' (i := 3) (L' := [(3, zI 0), (0, zR (some 0)), (1, zI 3), (2, zI a2)]) (by decide +kernel) (by decide) rfl (?_ : AW _ _ _ _ 15 _ _ _ _ _ _)
    refine AW.sub (L' := [(0, zR (some 0)), (1, zI 3), (2, zI a2), (3, zI 0)]) [1, 2, 3, 0] rfl ?_
    refine l_Model_goesOn_3_15 (fun μ10 => ?_) zN _ _
    exact AW.retv (by decide +kernel) rfl (by decide) (by decide)
theorem c_Model_goesOn_3 (l : Launch) (hl : l.stackTraces = false) (a2 : Int) (μ : ZMem) (r : ZRes) (h : F_Model_goesOn_3 a2 μ = some r) : ZC l cf_Model_goesOn_3 S_Model S_Model [zR (some 0), zI 3, zI a2] μ r := ZC.of hl (by decide +kernel) rfl rfl zft_X9_ok (Nat.le_of_ble_eq_true rfl) h (w_Model_goesOn_3 a2 μ)
/-! WeirLedgerModel.goesOn(II)V -/
def cf_Model_goesOn_2 : ZCf := (yX9_goesOn, cX9_goesOn, 4, none, [], 12, 0, 0, zft_X9, none)
theorem cal_Model_goesOn_2 : zCallee cf_Model_goesOn_2 2 := ⟨rfl, zc_yX9_goesOn, by decide, by decide, by decide +kernel⟩
def J_Model_goesOn_2_69 (R : Int → ZMem → Option ZRes) (K : ZMem → Option ZRes) (c2 : Int) (u3 : Int) (μ : ZMem) : Option ZRes := zLet (u3 + 1) (fun x3 => R x3 μ)
set_option maxRecDepth 100000 in
theorem j_Model_goesOn_2_69 {R : Int → ZMem → Option ZRes} {K : ZMem → Option ZRes} (c2 : Int) (hR : ∀ (v3 : Int) (μ : ZMem), AW cf_Model_goesOn_2 S_Model.length S_Model S_Model 15 [(0, zR (some 0)), (1, zI 2), (2, zI c2), (3, zI v3)] [] μ 0 0 (R v3 μ)) (hK : ∀ (μ : ZMem), AW cf_Model_goesOn_2 S_Model.length S_Model S_Model 75 [] [] μ 0 0 (K μ)) (u3 : Int) (μ : ZMem) : AW cf_Model_goesOn_2 S_Model.length S_Model S_Model 69 [(0, zR (some 0)), (1, zI 2), (2, zI c2), (3, zI u3)] [] μ 0 0 (J_Model_goesOn_2_69 R K c2 u3 μ) := by
  unfold J_Model_goesOn_2_69
  refine AW.iincL (i := 3) (n := 1) (a := u3) (L' := fun x3 => [(3, zI x3), (0, zR (some 0)), (1, zI 2), (2, zI c2)]) (by decide +kernel) rfl (by decide) (fun _ => rfl) (fun x3 => (?_ : AW _ _ _ _ 72 _ _ _ _ _ _))
  refine AW.goto (off := -57) (tgt := 15) (by decide +kernel) (by decide) ?_
  refine AW.sub (L' := [(0, zR (some 0)), (1, zI 2), (2, zI c2), (3, zI x3)]) [1, 2, 3, 0] rfl ?_
  exact hR x3 μ
def L_Model_goesOn_2_15 (c2 : Int) (K : ZMem → Option ZRes) : Nat → Int → ZMem → Option ZRes
  | 0, _, _ => none
  | n + 1, v3, μ => if w32 (μ 0 6) ≤ w32 v3 then (K  μ) else (if w32 (zand (zshr c2 v3) 1) = w32 1 then (J_Model_goesOn_2_69 (fun v3 μ => L_Model_goesOn_2_15 c2 K n v3 μ) K c2 v3 μ) else (zC (F_Model_dealAt v3 3 μ) (zkI (fun x5 _ => zRd μ 5 92 x5 (fun x6 => if w64 x6 = w64 1 then (J_Model_goesOn_2_69 (fun v3 μ => L_Model_goesOn_2_15 c2 K n v3 μ) K c2 v3 μ) else (zWr μ 23 6 2 v3 (fun μ7 => zC (F_Model_goesOn_3 (zor c2 (zshl 1 v3)) μ7) (zkV (fun μ8 => J_Model_goesOn_2_69 (fun v3 μ => L_Model_goesOn_2_15 c2 K n v3 μ) K c2 v3 μ8)) zX0))))) zX0))
set_option maxRecDepth 100000 in
theorem l_Model_goesOn_2_15 {c2 : Int} {K : ZMem → Option ZRes} (hK : ∀ (μ : ZMem), AW cf_Model_goesOn_2 S_Model.length S_Model S_Model 75 [] [] μ 0 0 (K μ)) : ∀ (n : Nat) (v3 : Int) (μ : ZMem), AW cf_Model_goesOn_2 S_Model.length S_Model S_Model 15 [(0, zR (some 0)), (1, zI 2), (2, zI c2), (3, zI v3)] [] μ 0 0 (L_Model_goesOn_2_15 c2 K n v3 μ) := by
  intro n
  induction n with
  | zero => intro v3 μ; exact AW.noth
  | succ n ih =>
    intro v3 μ
    rw [L_Model_goesOn_2_15]
    refine AW.iload_n (i := 3) (a := v3) (by decide +kernel) rfl (?_ : AW _ _ _ _ 16 _ _ _ _ _ _)
    refine AW.aload_n (i := 0) (a := 0) (by decide +kernel) rfl (?_ : AW _ _ _ _ 17 _ _ _ _ _ _)
    refine AW.getI (idx := 103) (ci := 9) (k := 6) (r := 0) (by decide +kernel) rfl rfl rfl (?_ : AW _ _ _ _ 20 _ _ _ _ _ _)
    refine AW.icmp_ge (off := 55) (tgt := 75) (by decide +kernel) (by decide) (fun _ => ?_) (fun _ => ?_)
    · refine AW.sub (L' := []) [] rfl ?_
      exact hK  μ
    · refine AW.iload_n (i := 2) (a := c2) (by decide +kernel) rfl (?_ : AW _ _ _ _ 24 _ _ _ _ _ _)
      refine AW.iload_n (i := 3) (a := v3) (by decide +kernel) rfl (?_ : AW _ _ _ _ 25 _ _ _ _ _ _)
      refine AW.ishr (by decide +kernel) (?_ : AW _ _ _ _ 26 _ _ _ _ _ _)
      refine AW.iconst (n := 1) (by decide +kernel) (?_ : AW _ _ _ _ 27 _ _ _ _ _ _)
      refine AW.iand (by decide +kernel) (?_ : AW _ _ _ _ 28 _ _ _ _ _ _)
      refine AW.iconst (n := 1) (by decide +kernel) (?_ : AW _ _ _ _ 29 _ _ _ _ _ _)
      refine AW.icmp_eq (off := 40) (tgt := 69) (by decide +kernel) (by decide) (fun _ => ?_) (fun _ => ?_)
      · exact j_Model_goesOn_2_69 c2 ih hK v3 μ
      · refine AW.aload_n (i := 0) (a := 0) (by decide +kernel) rfl (?_ : AW _ _ _ _ 33 _ _ _ _ _ _)
        refine AW.getR (idx := 22) (ci := 9) (k := 7) (r := 0) (by decide +kernel) rfl rfl rfl (?_ : AW _ _ _ _ 36 _ _ _ _ _ _)
        refine AW.iload_n (i := 3) (a := v3) (by decide +kernel) rfl (?_ : AW _ _ _ _ 37 _ _ _ _ _ _)
        refine AW.iconst (n := 3) (by decide +kernel) (?_ : AW _ _ _ _ 38 _ _ _ _ _ _)
        refine AW.callP (g := cf_Model_dealAt) (av := [zI v3, zI 3]) (idx := 166) (n := 2) (st := [zR (some 5)]) (by decide +kernel) (fun l hl r hr => c_Model_dealAt l hl v3 3 _ r hr) rfl cal_Model_dealAt rfl (zw3 zm_X9_166 zt_yX9_dealAt zn_X9) ⟨by decide, by decide, by decide, by decide⟩ (Nat.le_of_ble_eq_true rfl) (fun v _ => AW.kI (fun x5 => (?_ : AW _ _ _ _ 41 _ _ _ _ _ _)) v)
        refine AW.lald (r := 5) (by decide +kernel) rfl (fun x6 => (?_ : AW _ _ _ _ 42 _ _ _ _ _ _))
        refine AW.lconst1 (by decide +kernel) (?_ : AW _ _ _ _ 43 _ _ _ _ _ _)
        refine AW.lcmp_ne (off := 6) (tgt := 50) (by decide +kernel) (by decide +kernel) (by decide) (fun _ => ?_) (fun _ => ?_)
        · refine AW.goto (off := 22) (tgt := 69) (by decide +kernel) (by decide) ?_
          exact j_Model_goesOn_2_69 c2 ih hK v3 μ
        · refine AW.aload_n (i := 0) (a := 0) (by decide +kernel) rfl (?_ : AW _ _ _ _ 51 _ _ _ _ _ _)
          refine AW.getR (idx := 84) (ci := 9) (k := 37) (r := 0) (by decide +kernel) rfl rfl rfl (?_ : AW _ _ _ _ 54 _ _ _ _ _ _)
          refine AW.iload_n (i := 1) (a := 2) (by decide +kernel) rfl (?_ : AW _ _ _ _ 55 _ _ _ _ _ _)
          refine AW.iload_n (i := 3) (a := v3) (by decide +kernel) rfl (?_ : AW _ _ _ _ 56 _ _ _ _ _ _)
          refine AW.iastL (r := 23) (by decide +kernel) rfl (fun μ7 => (?_ : AW _ _ _ _ 57 _ _ _ _ _ _))
          refine AW.aload_n (i := 0) (a := 0) (by decide +kernel) rfl (?_ : AW _ _ _ _ 58 _ _ _ _ _ _)
          refine AW.iload_n (i := 1) (a := 2) (by decide +kernel) rfl (?_ : AW _ _ _ _ 59 _ _ _ _ _ _)
          refine AW.iconst (n := 1) (by decide +kernel) (?_ : AW _ _ _ _ 60 _ _ _ _ _ _)
          refine AW.iadd (by decide +kernel) (?_ : AW _ _ _ _ 61 _ (zI 3 :: _) _ _ _ _)
          refine AW.iload_n (i := 2) (a := c2) (by decide +kernel) rfl (?_ : AW _ _ _ _ 62 _ _ _ _ _ _)
          refine AW.iconst (n := 1) (by decide +kernel) (?_ : AW _ _ _ _ 63 _ _ _ _ _ _)
          refine AW.iload_n (i := 3) (a := v3) (by decide +kernel) rfl (?_ : AW _ _ _ _ 64 _ _ _ _ _ _)
          refine AW.ishl (by decide +kernel) (?_ : AW _ _ _ _ 65 _ _ _ _ _ _)
          refine AW.ior (by decide +kernel) (?_ : AW _ _ _ _ 66 _ _ _ _ _ _)
          refine AW.callVw (g := cf_Model_goesOn_3) (av := [zI 3, zI (zor c2 (zshl 1 v3))]) (b0 := 0) (ci := 9) (idx := 402) (n := 2) (st := []) (by decide +kernel) (fun l hl r hr => c_Model_goesOn_3 l hl (zor c2 (zshl 1 v3)) _ r hr) S_Model_wf rfl cal_Model_goesOn_3 rfl (zw4 zm_X9_402 zi_yX9_goesOn zs_yX9_goesOn zn_X9) rfl rfl ⟨by decide, by decide, by decide, by decide⟩ (Nat.le_of_ble_eq_true rfl) (Or.inl rfl) (fun v μ8 => AW.kV (?_ : AW _ _ _ _ 69 _ _ _ _ _ _) v)
          exact j_Model_goesOn_2_69 c2 ih hK v3 μ8
def F_Model_goesOn_2 (a2 : Int) (μ : ZMem) : Option ZRes := if w32 2 = w32 (μ 0 39) then (zC (F_Model_triesRow  μ) (zkV (fun μ1 => some (.inr none, μ1))) zX0) else (L_Model_goesOn_2_15 a2 (fun μ10 => some (.inr none, μ10)) zN 0 μ)
set_option maxRecDepth 100000 in
theorem w_Model_goesOn_2 (a2 : Int) (μ : ZMem) : AW cf_Model_goesOn_2 S_Model.length S_Model S_Model 0 [(0, zR (some 0)), (1, zI 2), (2, zI a2)] [] μ 0 0 (F_Model_goesOn_2 a2 μ) := by
  unfold F_Model_goesOn_2
  refine AW.iload_n (i := 1) (a := 2) (by decide +kernel) rfl (?_ : AW _ _ _ _ 1 _ _ _ _ _ _)
  refine AW.aload_n (i := 0) (a := 0) (by decide +kernel) rfl (?_ : AW _ _ _ _ 2 _ _ _ _ _ _)
  refine AW.getI (idx := 393) (ci := 9) (k := 39) (r := 0) (by decide +kernel) rfl rfl rfl (?_ : AW _ _ _ _ 5 _ _ _ _ _ _)
  refine AW.icmp_ne (off := 8) (tgt := 13) (by decide +kernel) (by decide) (fun _ => ?_) (fun _ => ?_)
  · refine AW.aload_n (i := 0) (a := 0) (by decide +kernel) rfl (?_ : AW _ _ _ _ 9 _ _ _ _ _ _)
    refine AW.callVw (g := cf_Model_triesRow) (av := []) (b0 := 0) (ci := 9) (idx := 399) (n := 0) (st := []) (by decide +kernel) (fun l hl r hr => c_Model_triesRow l hl  _ r hr) S_Model_wf rfl cal_Model_triesRow rfl (zw4 zm_X9_399 zi_yX9_triesRow zs_yX9_triesRow zn_X9) rfl rfl ⟨by decide, by decide, by decide, by decide⟩ (Nat.le_of_ble_eq_true rfl) (Or.inl rfl) (fun v μ1 => AW.kV (?_ : AW _ _ _ _ 12 _ _ _ _ _ _) v)
    exact AW.retv (by decide +kernel) rfl (by decide) (by decide)
  · refine AW.iconst (n := 0) (by decide +kernel) (?_ : AW _ _ _ _ 14 _ _ _ _ _ _)
    refine AW.istore_n' (i := 3) (L' := [(3, zI 0), (0, zR (some 0)), (1, zI 2), (2, zI a2)]) (by decide +kernel) (by decide) rfl (?_ : AW _ _ _ _ 15 _ _ _ _ _ _)
    refine AW.sub (L' := [(0, zR (some 0)), (1, zI 2), (2, zI a2), (3, zI 0)]) [1, 2, 3, 0] rfl ?_
    refine l_Model_goesOn_2_15 (fun μ10 => ?_) zN _ _
    exact AW.retv (by decide +kernel) rfl (by decide) (by decide)
theorem c_Model_goesOn_2 (l : Launch) (hl : l.stackTraces = false) (a2 : Int) (μ : ZMem) (r : ZRes) (h : F_Model_goesOn_2 a2 μ = some r) : ZC l cf_Model_goesOn_2 S_Model S_Model [zR (some 0), zI 2, zI a2] μ r := ZC.of hl (by decide +kernel) rfl rfl zft_X9_ok (Nat.le_of_ble_eq_true rfl) h (w_Model_goesOn_2 a2 μ)
/-! WeirLedgerModel.goesOn(II)V -/
def cf_Model_goesOn_1 : ZCf := (yX9_goesOn, cX9_goesOn, 4, none, [], 13, 0, 0, zft_X9, none)
theorem cal_Model_goesOn_1 : zCallee cf_Model_goesOn_1 2 := ⟨rfl, zc_yX9_goesOn, by decide, by decide, by decide +kernel⟩
def J_Model_goesOn_1_69 (R : Int → ZMem → Option ZRes) (K : ZMem → Option ZRes) (c2 : Int) (u3 : Int) (μ : ZMem) : Option ZRes := zLet (u3 + 1) (fun x3 => R x3 μ)
set_option maxRecDepth 100000 in
theorem j_Model_goesOn_1_69 {R : Int → ZMem → Option ZRes} {K : ZMem → Option ZRes} (c2 : Int) (hR : ∀ (v3 : Int) (μ : ZMem), AW cf_Model_goesOn_1 S_Model.length S_Model S_Model 15 [(0, zR (some 0)), (1, zI 1), (2, zI c2), (3, zI v3)] [] μ 0 0 (R v3 μ)) (hK : ∀ (μ : ZMem), AW cf_Model_goesOn_1 S_Model.length S_Model S_Model 75 [] [] μ 0 0 (K μ)) (u3 : Int) (μ : ZMem) : AW cf_Model_goesOn_1 S_Model.length S_Model S_Model 69 [(0, zR (some 0)), (1, zI 1), (2, zI c2), (3, zI u3)] [] μ 0 0 (J_Model_goesOn_1_69 R K c2 u3 μ) := by
  unfold J_Model_goesOn_1_69
  refine AW.iincL (i := 3) (n := 1) (a := u3) (L' := fun x3 => [(3, zI x3), (0, zR (some 0)), (1, zI 1), (2, zI c2)]) (by decide +kernel) rfl (by decide) (fun _ => rfl) (fun x3 => (?_ : AW _ _ _ _ 72 _ _ _ _ _ _))
  refine AW.goto (off := -57) (tgt := 15) (by decide +kernel) (by decide) ?_
  refine AW.sub (L' := [(0, zR (some 0)), (1, zI 1), (2, zI c2), (3, zI x3)]) [1, 2, 3, 0] rfl ?_
  exact hR x3 μ
def L_Model_goesOn_1_15 (c2 : Int) (K : ZMem → Option ZRes) : Nat → Int → ZMem → Option ZRes
  | 0, _, _ => none
  | n + 1, v3, μ => if w32 (μ 0 6) ≤ w32 v3 then (K  μ) else (if w32 (zand (zshr c2 v3) 1) = w32 1 then (J_Model_goesOn_1_69 (fun v3 μ => L_Model_goesOn_1_15 c2 K n v3 μ) K c2 v3 μ) else (zC (F_Model_dealAt v3 3 μ) (zkI (fun x5 _ => zRd μ 5 92 x5 (fun x6 => if w64 x6 = w64 1 then (J_Model_goesOn_1_69 (fun v3 μ => L_Model_goesOn_1_15 c2 K n v3 μ) K c2 v3 μ) else (zWr μ 23 6 1 v3 (fun μ7 => zC (F_Model_goesOn_2 (zor c2 (zshl 1 v3)) μ7) (zkV (fun μ8 => J_Model_goesOn_1_69 (fun v3 μ => L_Model_goesOn_1_15 c2 K n v3 μ) K c2 v3 μ8)) zX0))))) zX0))
set_option maxRecDepth 100000 in
theorem l_Model_goesOn_1_15 {c2 : Int} {K : ZMem → Option ZRes} (hK : ∀ (μ : ZMem), AW cf_Model_goesOn_1 S_Model.length S_Model S_Model 75 [] [] μ 0 0 (K μ)) : ∀ (n : Nat) (v3 : Int) (μ : ZMem), AW cf_Model_goesOn_1 S_Model.length S_Model S_Model 15 [(0, zR (some 0)), (1, zI 1), (2, zI c2), (3, zI v3)] [] μ 0 0 (L_Model_goesOn_1_15 c2 K n v3 μ) := by
  intro n
  induction n with
  | zero => intro v3 μ; exact AW.noth
  | succ n ih =>
    intro v3 μ
    rw [L_Model_goesOn_1_15]
    refine AW.iload_n (i := 3) (a := v3) (by decide +kernel) rfl (?_ : AW _ _ _ _ 16 _ _ _ _ _ _)
    refine AW.aload_n (i := 0) (a := 0) (by decide +kernel) rfl (?_ : AW _ _ _ _ 17 _ _ _ _ _ _)
    refine AW.getI (idx := 103) (ci := 9) (k := 6) (r := 0) (by decide +kernel) rfl rfl rfl (?_ : AW _ _ _ _ 20 _ _ _ _ _ _)
    refine AW.icmp_ge (off := 55) (tgt := 75) (by decide +kernel) (by decide) (fun _ => ?_) (fun _ => ?_)
    · refine AW.sub (L' := []) [] rfl ?_
      exact hK  μ
    · refine AW.iload_n (i := 2) (a := c2) (by decide +kernel) rfl (?_ : AW _ _ _ _ 24 _ _ _ _ _ _)
      refine AW.iload_n (i := 3) (a := v3) (by decide +kernel) rfl (?_ : AW _ _ _ _ 25 _ _ _ _ _ _)
      refine AW.ishr (by decide +kernel) (?_ : AW _ _ _ _ 26 _ _ _ _ _ _)
      refine AW.iconst (n := 1) (by decide +kernel) (?_ : AW _ _ _ _ 27 _ _ _ _ _ _)
      refine AW.iand (by decide +kernel) (?_ : AW _ _ _ _ 28 _ _ _ _ _ _)
      refine AW.iconst (n := 1) (by decide +kernel) (?_ : AW _ _ _ _ 29 _ _ _ _ _ _)
      refine AW.icmp_eq (off := 40) (tgt := 69) (by decide +kernel) (by decide) (fun _ => ?_) (fun _ => ?_)
      · exact j_Model_goesOn_1_69 c2 ih hK v3 μ
      · refine AW.aload_n (i := 0) (a := 0) (by decide +kernel) rfl (?_ : AW _ _ _ _ 33 _ _ _ _ _ _)
        refine AW.getR (idx := 22) (ci := 9) (k := 7) (r := 0) (by decide +kernel) rfl rfl rfl (?_ : AW _ _ _ _ 36 _ _ _ _ _ _)
        refine AW.iload_n (i := 3) (a := v3) (by decide +kernel) rfl (?_ : AW _ _ _ _ 37 _ _ _ _ _ _)
        refine AW.iconst (n := 3) (by decide +kernel) (?_ : AW _ _ _ _ 38 _ _ _ _ _ _)
        refine AW.callP (g := cf_Model_dealAt) (av := [zI v3, zI 3]) (idx := 166) (n := 2) (st := [zR (some 5)]) (by decide +kernel) (fun l hl r hr => c_Model_dealAt l hl v3 3 _ r hr) rfl cal_Model_dealAt rfl (zw3 zm_X9_166 zt_yX9_dealAt zn_X9) ⟨by decide, by decide, by decide, by decide⟩ (Nat.le_of_ble_eq_true rfl) (fun v _ => AW.kI (fun x5 => (?_ : AW _ _ _ _ 41 _ _ _ _ _ _)) v)
        refine AW.lald (r := 5) (by decide +kernel) rfl (fun x6 => (?_ : AW _ _ _ _ 42 _ _ _ _ _ _))
        refine AW.lconst1 (by decide +kernel) (?_ : AW _ _ _ _ 43 _ _ _ _ _ _)
        refine AW.lcmp_ne (off := 6) (tgt := 50) (by decide +kernel) (by decide +kernel) (by decide) (fun _ => ?_) (fun _ => ?_)
        · refine AW.goto (off := 22) (tgt := 69) (by decide +kernel) (by decide) ?_
          exact j_Model_goesOn_1_69 c2 ih hK v3 μ
        · refine AW.aload_n (i := 0) (a := 0) (by decide +kernel) rfl (?_ : AW _ _ _ _ 51 _ _ _ _ _ _)
          refine AW.getR (idx := 84) (ci := 9) (k := 37) (r := 0) (by decide +kernel) rfl rfl rfl (?_ : AW _ _ _ _ 54 _ _ _ _ _ _)
          refine AW.iload_n (i := 1) (a := 1) (by decide +kernel) rfl (?_ : AW _ _ _ _ 55 _ _ _ _ _ _)
          refine AW.iload_n (i := 3) (a := v3) (by decide +kernel) rfl (?_ : AW _ _ _ _ 56 _ _ _ _ _ _)
          refine AW.iastL (r := 23) (by decide +kernel) rfl (fun μ7 => (?_ : AW _ _ _ _ 57 _ _ _ _ _ _))
          refine AW.aload_n (i := 0) (a := 0) (by decide +kernel) rfl (?_ : AW _ _ _ _ 58 _ _ _ _ _ _)
          refine AW.iload_n (i := 1) (a := 1) (by decide +kernel) rfl (?_ : AW _ _ _ _ 59 _ _ _ _ _ _)
          refine AW.iconst (n := 1) (by decide +kernel) (?_ : AW _ _ _ _ 60 _ _ _ _ _ _)
          refine AW.iadd (by decide +kernel) (?_ : AW _ _ _ _ 61 _ (zI 2 :: _) _ _ _ _)
          refine AW.iload_n (i := 2) (a := c2) (by decide +kernel) rfl (?_ : AW _ _ _ _ 62 _ _ _ _ _ _)
          refine AW.iconst (n := 1) (by decide +kernel) (?_ : AW _ _ _ _ 63 _ _ _ _ _ _)
          refine AW.iload_n (i := 3) (a := v3) (by decide +kernel) rfl (?_ : AW _ _ _ _ 64 _ _ _ _ _ _)
          refine AW.ishl (by decide +kernel) (?_ : AW _ _ _ _ 65 _ _ _ _ _ _)
          refine AW.ior (by decide +kernel) (?_ : AW _ _ _ _ 66 _ _ _ _ _ _)
          refine AW.callVw (g := cf_Model_goesOn_2) (av := [zI 2, zI (zor c2 (zshl 1 v3))]) (b0 := 0) (ci := 9) (idx := 402) (n := 2) (st := []) (by decide +kernel) (fun l hl r hr => c_Model_goesOn_2 l hl (zor c2 (zshl 1 v3)) _ r hr) S_Model_wf rfl cal_Model_goesOn_2 rfl (zw4 zm_X9_402 zi_yX9_goesOn zs_yX9_goesOn zn_X9) rfl rfl ⟨by decide, by decide, by decide, by decide⟩ (Nat.le_of_ble_eq_true rfl) (Or.inl rfl) (fun v μ8 => AW.kV (?_ : AW _ _ _ _ 69 _ _ _ _ _ _) v)
          exact j_Model_goesOn_1_69 c2 ih hK v3 μ8
def F_Model_goesOn_1 (a2 : Int) (μ : ZMem) : Option ZRes := if w32 1 = w32 (μ 0 39) then (zC (F_Model_triesRow  μ) (zkV (fun μ1 => some (.inr none, μ1))) zX0) else (L_Model_goesOn_1_15 a2 (fun μ10 => some (.inr none, μ10)) zN 0 μ)
set_option maxRecDepth 100000 in
theorem w_Model_goesOn_1 (a2 : Int) (μ : ZMem) : AW cf_Model_goesOn_1 S_Model.length S_Model S_Model 0 [(0, zR (some 0)), (1, zI 1), (2, zI a2)] [] μ 0 0 (F_Model_goesOn_1 a2 μ) := by
  unfold F_Model_goesOn_1
  refine AW.iload_n (i := 1) (a := 1) (by decide +kernel) rfl (?_ : AW _ _ _ _ 1 _ _ _ _ _ _)
  refine AW.aload_n (i := 0) (a := 0) (by decide +kernel) rfl (?_ : AW _ _ _ _ 2 _ _ _ _ _ _)
  refine AW.getI (idx := 393) (ci := 9) (k := 39) (r := 0) (by decide +kernel) rfl rfl rfl (?_ : AW _ _ _ _ 5 _ _ _ _ _ _)
  refine AW.icmp_ne (off := 8) (tgt := 13) (by decide +kernel) (by decide) (fun _ => ?_) (fun _ => ?_)
  · refine AW.aload_n (i := 0) (a := 0) (by decide +kernel) rfl (?_ : AW _ _ _ _ 9 _ _ _ _ _ _)
    refine AW.callVw (g := cf_Model_triesRow) (av := []) (b0 := 0) (ci := 9) (idx := 399) (n := 0) (st := []) (by decide +kernel) (fun l hl r hr => c_Model_triesRow l hl  _ r hr) S_Model_wf rfl cal_Model_triesRow rfl (zw4 zm_X9_399 zi_yX9_triesRow zs_yX9_triesRow zn_X9) rfl rfl ⟨by decide, by decide, by decide, by decide⟩ (Nat.le_of_ble_eq_true rfl) (Or.inl rfl) (fun v μ1 => AW.kV (?_ : AW _ _ _ _ 12 _ _ _ _ _ _) v)
    exact AW.retv (by decide +kernel) rfl (by decide) (by decide)
  · refine AW.iconst (n := 0) (by decide +kernel) (?_ : AW _ _ _ _ 14 _ _ _ _ _ _)
    refine AW.istore_n' (i := 3) (L' := [(3, zI 0), (0, zR (some 0)), (1, zI 1), (2, zI a2)]) (by decide +kernel) (by decide) rfl (?_ : AW _ _ _ _ 15 _ _ _ _ _ _)
    refine AW.sub (L' := [(0, zR (some 0)), (1, zI 1), (2, zI a2), (3, zI 0)]) [1, 2, 3, 0] rfl ?_
    refine l_Model_goesOn_1_15 (fun μ10 => ?_) zN _ _
    exact AW.retv (by decide +kernel) rfl (by decide) (by decide)
theorem c_Model_goesOn_1 (l : Launch) (hl : l.stackTraces = false) (a2 : Int) (μ : ZMem) (r : ZRes) (h : F_Model_goesOn_1 a2 μ = some r) : ZC l cf_Model_goesOn_1 S_Model S_Model [zR (some 0), zI 1, zI a2] μ r := ZC.of hl (by decide +kernel) rfl rfl zft_X9_ok (Nat.le_of_ble_eq_true rfl) h (w_Model_goesOn_1 a2 μ)
/-! WeirLedgerModel.goesOn(II)V -/
def cf_Model_goesOn_0 : ZCf := (yX9_goesOn, cX9_goesOn, 4, none, [], 14, 0, 0, zft_X9, none)
theorem cal_Model_goesOn_0 : zCallee cf_Model_goesOn_0 2 := ⟨rfl, zc_yX9_goesOn, by decide, by decide, by decide +kernel⟩
def J_Model_goesOn_0_69 (R : Int → ZMem → Option ZRes) (K : ZMem → Option ZRes) (c2 : Int) (u3 : Int) (μ : ZMem) : Option ZRes := zLet (u3 + 1) (fun x3 => R x3 μ)
set_option maxRecDepth 100000 in
theorem j_Model_goesOn_0_69 {R : Int → ZMem → Option ZRes} {K : ZMem → Option ZRes} (c2 : Int) (hR : ∀ (v3 : Int) (μ : ZMem), AW cf_Model_goesOn_0 S_Model.length S_Model S_Model 15 [(0, zR (some 0)), (1, zI 0), (2, zI c2), (3, zI v3)] [] μ 0 0 (R v3 μ)) (hK : ∀ (μ : ZMem), AW cf_Model_goesOn_0 S_Model.length S_Model S_Model 75 [] [] μ 0 0 (K μ)) (u3 : Int) (μ : ZMem) : AW cf_Model_goesOn_0 S_Model.length S_Model S_Model 69 [(0, zR (some 0)), (1, zI 0), (2, zI c2), (3, zI u3)] [] μ 0 0 (J_Model_goesOn_0_69 R K c2 u3 μ) := by
  unfold J_Model_goesOn_0_69
  refine AW.iincL (i := 3) (n := 1) (a := u3) (L' := fun x3 => [(3, zI x3), (0, zR (some 0)), (1, zI 0), (2, zI c2)]) (by decide +kernel) rfl (by decide) (fun _ => rfl) (fun x3 => (?_ : AW _ _ _ _ 72 _ _ _ _ _ _))
  refine AW.goto (off := -57) (tgt := 15) (by decide +kernel) (by decide) ?_
  refine AW.sub (L' := [(0, zR (some 0)), (1, zI 0), (2, zI c2), (3, zI x3)]) [1, 2, 3, 0] rfl ?_
  exact hR x3 μ
def L_Model_goesOn_0_15 (c2 : Int) (K : ZMem → Option ZRes) : Nat → Int → ZMem → Option ZRes
  | 0, _, _ => none
  | n + 1, v3, μ => if w32 (μ 0 6) ≤ w32 v3 then (K  μ) else (if w32 (zand (zshr c2 v3) 1) = w32 1 then (J_Model_goesOn_0_69 (fun v3 μ => L_Model_goesOn_0_15 c2 K n v3 μ) K c2 v3 μ) else (zC (F_Model_dealAt v3 3 μ) (zkI (fun x5 _ => zRd μ 5 92 x5 (fun x6 => if w64 x6 = w64 1 then (J_Model_goesOn_0_69 (fun v3 μ => L_Model_goesOn_0_15 c2 K n v3 μ) K c2 v3 μ) else (zWr μ 23 6 0 v3 (fun μ7 => zC (F_Model_goesOn_1 (zor c2 (zshl 1 v3)) μ7) (zkV (fun μ8 => J_Model_goesOn_0_69 (fun v3 μ => L_Model_goesOn_0_15 c2 K n v3 μ) K c2 v3 μ8)) zX0))))) zX0))
set_option maxRecDepth 100000 in
theorem l_Model_goesOn_0_15 {c2 : Int} {K : ZMem → Option ZRes} (hK : ∀ (μ : ZMem), AW cf_Model_goesOn_0 S_Model.length S_Model S_Model 75 [] [] μ 0 0 (K μ)) : ∀ (n : Nat) (v3 : Int) (μ : ZMem), AW cf_Model_goesOn_0 S_Model.length S_Model S_Model 15 [(0, zR (some 0)), (1, zI 0), (2, zI c2), (3, zI v3)] [] μ 0 0 (L_Model_goesOn_0_15 c2 K n v3 μ) := by
  intro n
  induction n with
  | zero => intro v3 μ; exact AW.noth
  | succ n ih =>
    intro v3 μ
    rw [L_Model_goesOn_0_15]
    refine AW.iload_n (i := 3) (a := v3) (by decide +kernel) rfl (?_ : AW _ _ _ _ 16 _ _ _ _ _ _)
    refine AW.aload_n (i := 0) (a := 0) (by decide +kernel) rfl (?_ : AW _ _ _ _ 17 _ _ _ _ _ _)
    refine AW.getI (idx := 103) (ci := 9) (k := 6) (r := 0) (by decide +kernel) rfl rfl rfl (?_ : AW _ _ _ _ 20 _ _ _ _ _ _)
    refine AW.icmp_ge (off := 55) (tgt := 75) (by decide +kernel) (by decide) (fun _ => ?_) (fun _ => ?_)
    · refine AW.sub (L' := []) [] rfl ?_
      exact hK  μ
    · refine AW.iload_n (i := 2) (a := c2) (by decide +kernel) rfl (?_ : AW _ _ _ _ 24 _ _ _ _ _ _)
      refine AW.iload_n (i := 3) (a := v3) (by decide +kernel) rfl (?_ : AW _ _ _ _ 25 _ _ _ _ _ _)
      refine AW.ishr (by decide +kernel) (?_ : AW _ _ _ _ 26 _ _ _ _ _ _)
      refine AW.iconst (n := 1) (by decide +kernel) (?_ : AW _ _ _ _ 27 _ _ _ _ _ _)
      refine AW.iand (by decide +kernel) (?_ : AW _ _ _ _ 28 _ _ _ _ _ _)
      refine AW.iconst (n := 1) (by decide +kernel) (?_ : AW _ _ _ _ 29 _ _ _ _ _ _)
      refine AW.icmp_eq (off := 40) (tgt := 69) (by decide +kernel) (by decide) (fun _ => ?_) (fun _ => ?_)
      · exact j_Model_goesOn_0_69 c2 ih hK v3 μ
      · refine AW.aload_n (i := 0) (a := 0) (by decide +kernel) rfl (?_ : AW _ _ _ _ 33 _ _ _ _ _ _)
        refine AW.getR (idx := 22) (ci := 9) (k := 7) (r := 0) (by decide +kernel) rfl rfl rfl (?_ : AW _ _ _ _ 36 _ _ _ _ _ _)
        refine AW.iload_n (i := 3) (a := v3) (by decide +kernel) rfl (?_ : AW _ _ _ _ 37 _ _ _ _ _ _)
        refine AW.iconst (n := 3) (by decide +kernel) (?_ : AW _ _ _ _ 38 _ _ _ _ _ _)
        refine AW.callP (g := cf_Model_dealAt) (av := [zI v3, zI 3]) (idx := 166) (n := 2) (st := [zR (some 5)]) (by decide +kernel) (fun l hl r hr => c_Model_dealAt l hl v3 3 _ r hr) rfl cal_Model_dealAt rfl (zw3 zm_X9_166 zt_yX9_dealAt zn_X9) ⟨by decide, by decide, by decide, by decide⟩ (Nat.le_of_ble_eq_true rfl) (fun v _ => AW.kI (fun x5 => (?_ : AW _ _ _ _ 41 _ _ _ _ _ _)) v)
        refine AW.lald (r := 5) (by decide +kernel) rfl (fun x6 => (?_ : AW _ _ _ _ 42 _ _ _ _ _ _))
        refine AW.lconst1 (by decide +kernel) (?_ : AW _ _ _ _ 43 _ _ _ _ _ _)
        refine AW.lcmp_ne (off := 6) (tgt := 50) (by decide +kernel) (by decide +kernel) (by decide) (fun _ => ?_) (fun _ => ?_)
        · refine AW.goto (off := 22) (tgt := 69) (by decide +kernel) (by decide) ?_
          exact j_Model_goesOn_0_69 c2 ih hK v3 μ
        · refine AW.aload_n (i := 0) (a := 0) (by decide +kernel) rfl (?_ : AW _ _ _ _ 51 _ _ _ _ _ _)
          refine AW.getR (idx := 84) (ci := 9) (k := 37) (r := 0) (by decide +kernel) rfl rfl rfl (?_ : AW _ _ _ _ 54 _ _ _ _ _ _)
          refine AW.iload_n (i := 1) (a := 0) (by decide +kernel) rfl (?_ : AW _ _ _ _ 55 _ _ _ _ _ _)
          refine AW.iload_n (i := 3) (a := v3) (by decide +kernel) rfl (?_ : AW _ _ _ _ 56 _ _ _ _ _ _)
          refine AW.iastL (r := 23) (by decide +kernel) rfl (fun μ7 => (?_ : AW _ _ _ _ 57 _ _ _ _ _ _))
          refine AW.aload_n (i := 0) (a := 0) (by decide +kernel) rfl (?_ : AW _ _ _ _ 58 _ _ _ _ _ _)
          refine AW.iload_n (i := 1) (a := 0) (by decide +kernel) rfl (?_ : AW _ _ _ _ 59 _ _ _ _ _ _)
          refine AW.iconst (n := 1) (by decide +kernel) (?_ : AW _ _ _ _ 60 _ _ _ _ _ _)
          refine AW.iadd (by decide +kernel) (?_ : AW _ _ _ _ 61 _ (zI 1 :: _) _ _ _ _)
          refine AW.iload_n (i := 2) (a := c2) (by decide +kernel) rfl (?_ : AW _ _ _ _ 62 _ _ _ _ _ _)
          refine AW.iconst (n := 1) (by decide +kernel) (?_ : AW _ _ _ _ 63 _ _ _ _ _ _)
          refine AW.iload_n (i := 3) (a := v3) (by decide +kernel) rfl (?_ : AW _ _ _ _ 64 _ _ _ _ _ _)
          refine AW.ishl (by decide +kernel) (?_ : AW _ _ _ _ 65 _ _ _ _ _ _)
          refine AW.ior (by decide +kernel) (?_ : AW _ _ _ _ 66 _ _ _ _ _ _)
          refine AW.callVw (g := cf_Model_goesOn_1) (av := [zI 1, zI (zor c2 (zshl 1 v3))]) (b0 := 0) (ci := 9) (idx := 402) (n := 2) (st := []) (by decide +kernel) (fun l hl r hr => c_Model_goesOn_1 l hl (zor c2 (zshl 1 v3)) _ r hr) S_Model_wf rfl cal_Model_goesOn_1 rfl (zw4 zm_X9_402 zi_yX9_goesOn zs_yX9_goesOn zn_X9) rfl rfl ⟨by decide, by decide, by decide, by decide⟩ (Nat.le_of_ble_eq_true rfl) (Or.inl rfl) (fun v μ8 => AW.kV (?_ : AW _ _ _ _ 69 _ _ _ _ _ _) v)
          exact j_Model_goesOn_0_69 c2 ih hK v3 μ8
def F_Model_goesOn_0 (a2 : Int) (μ : ZMem) : Option ZRes := if w32 0 = w32 (μ 0 39) then (zC (F_Model_triesRow  μ) (zkV (fun μ1 => some (.inr none, μ1))) zX0) else (L_Model_goesOn_0_15 a2 (fun μ10 => some (.inr none, μ10)) zN 0 μ)
set_option maxRecDepth 100000 in
theorem w_Model_goesOn_0 (a2 : Int) (μ : ZMem) : AW cf_Model_goesOn_0 S_Model.length S_Model S_Model 0 [(0, zR (some 0)), (1, zI 0), (2, zI a2)] [] μ 0 0 (F_Model_goesOn_0 a2 μ) := by
  unfold F_Model_goesOn_0
  refine AW.iload_n (i := 1) (a := 0) (by decide +kernel) rfl (?_ : AW _ _ _ _ 1 _ _ _ _ _ _)
  refine AW.aload_n (i := 0) (a := 0) (by decide +kernel) rfl (?_ : AW _ _ _ _ 2 _ _ _ _ _ _)
  refine AW.getI (idx := 393) (ci := 9) (k := 39) (r := 0) (by decide +kernel) rfl rfl rfl (?_ : AW _ _ _ _ 5 _ _ _ _ _ _)
  refine AW.icmp_ne (off := 8) (tgt := 13) (by decide +kernel) (by decide) (fun _ => ?_) (fun _ => ?_)
  · refine AW.aload_n (i := 0) (a := 0) (by decide +kernel) rfl (?_ : AW _ _ _ _ 9 _ _ _ _ _ _)
    refine AW.callVw (g := cf_Model_triesRow) (av := []) (b0 := 0) (ci := 9) (idx := 399) (n := 0) (st := []) (by decide +kernel) (fun l hl r hr => c_Model_triesRow l hl  _ r hr) S_Model_wf rfl cal_Model_triesRow rfl (zw4 zm_X9_399 zi_yX9_triesRow zs_yX9_triesRow zn_X9) rfl rfl ⟨by decide, by decide, by decide, by decide⟩ (Nat.le_of_ble_eq_true rfl) (Or.inl rfl) (fun v μ1 => AW.kV (?_ : AW _ _ _ _ 12 _ _ _ _ _ _) v)
    exact AW.retv (by decide +kernel) rfl (by decide) (by decide)
  · refine AW.iconst (n := 0) (by decide +kernel) (?_ : AW _ _ _ _ 14 _ _ _ _ _ _)
    refine AW.istore_n' (i := 3) (L' := [(3, zI 0), (0, zR (some 0)), (1, zI 0), (2, zI a2)]) (by decide +kernel) (by decide) rfl (?_ : AW _ _ _ _ 15 _ _ _ _ _ _)
    refine AW.sub (L' := [(0, zR (some 0)), (1, zI 0), (2, zI a2), (3, zI 0)]) [1, 2, 3, 0] rfl ?_
    refine l_Model_goesOn_0_15 (fun μ10 => ?_) zN _ _
    exact AW.retv (by decide +kernel) rfl (by decide) (by decide)
theorem c_Model_goesOn_0 (l : Launch) (hl : l.stackTraces = false) (a2 : Int) (μ : ZMem) (r : ZRes) (h : F_Model_goesOn_0 a2 μ = some r) : ZC l cf_Model_goesOn_0 S_Model S_Model [zR (some 0), zI 0, zI a2] μ r := ZC.of hl (by decide +kernel) rfl rfl zft_X9_ok (Nat.le_of_ble_eq_true rfl) h (w_Model_goesOn_0 a2 μ)
/-! WeirLedgerModel.order(I)J -/
def cf_Model_order : ZCf := (yX9_order, cX9_order, 3, some .long, [], 15, 0, 0, zft_X9, none)
theorem cal_Model_order : zCallee cf_Model_order 1 := ⟨rfl, zc_yX9_order, by decide, by decide, by decide +kernel⟩
def J_Model_order_45 (R : Int → ZMem → Option ZRes) (K : ZMem → Option ZRes) (c1 : Int) (u2 : Int) (y0 : Int) (y1 : Int) (μ : ZMem) : Option ZRes := zLet (zUp μ 0 39 (y1 + y0)) (fun μ6 => zLet (u2 + 1) (fun x7 => R x7 μ6))
set_option maxRecDepth 100000 in
theorem j_Model_order_45 {R : Int → ZMem → Option ZRes} {K : ZMem → Option ZRes} (c1 : Int) (hR : ∀ (v2 : Int) (μ : ZMem), AW cf_Model_order S_Model.length S_Model S_Model 12 [(0, zR (some 0)), (1, zI c1), (2, zI v2)] [] μ 0 0 (R v2 μ)) (hK : ∀ (μ : ZMem), AW cf_Model_order S_Model.length S_Model S_Model 55 [(0, zR (some 0)), (1, zI c1)] [] μ 0 0 (K μ)) (u2 : Int) (y0 : Int) (y1 : Int) (μ : ZMem) : AW cf_Model_order S_Model.length S_Model S_Model 45 [(0, zR (some 0)), (1, zI c1), (2, zI u2)] [zI y0, zI y1, zR (some 0)] μ 0 0 (J_Model_order_45 R K c1 u2 y0 y1 μ) := by
  unfold J_Model_order_45
  refine AW.iadd (by decide +kernel) (?_ : AW _ _ _ _ 46 _ _ _ _ _ _)
  refine AW.putiL (idx := 393) (ci := 9) (k := 39) (r := 0) (by decide +kernel) rfl rfl rfl (fun μ6 => (?_ : AW _ _ _ _ 49 _ _ _ _ _ _))
  refine AW.iincL (i := 2) (n := 1) (a := u2) (L' := fun x7 => [(2, zI x7), (0, zR (some 0)), (1, zI c1)]) (by decide +kernel) rfl (by decide) (fun _ => rfl) (fun x7 => (?_ : AW _ _ _ _ 52 _ _ _ _ _ _))
  refine AW.goto (off := -40) (tgt := 12) (by decide +kernel) (by decide) ?_
  refine AW.sub (L' := [(0, zR (some 0)), (1, zI c1), (2, zI x7)]) [1, 2, 0] rfl ?_
  exact hR x7 μ6
def L_Model_order_12 (c1 : Int) (K : ZMem → Option ZRes) : Nat → Int → ZMem → Option ZRes
  | 0, _, _ => none
  | n + 1, v2, μ => if w32 (μ 0 6) ≤ w32 v2 then (K  μ) else (zC (F_Model_dealAt v2 3 μ) (zkI (fun x4 _ => zRd μ 5 92 x4 (fun x5 => if w64 x5 = w64 0 then (J_Model_order_45 (fun v2 μ => L_Model_order_12 c1 K n v2 μ) K c1 v2 1 (μ 0 39) μ) else (J_Model_order_45 (fun v2 μ => L_Model_order_12 c1 K n v2 μ) K c1 v2 0 (μ 0 39) μ)))) zX0)
set_option maxRecDepth 100000 in
theorem l_Model_order_12 {c1 : Int} {K : ZMem → Option ZRes} (hK : ∀ (μ : ZMem), AW cf_Model_order S_Model.length S_Model S_Model 55 [(0, zR (some 0)), (1, zI c1)] [] μ 0 0 (K μ)) : ∀ (n : Nat) (v2 : Int) (μ : ZMem), AW cf_Model_order S_Model.length S_Model S_Model 12 [(0, zR (some 0)), (1, zI c1), (2, zI v2)] [] μ 0 0 (L_Model_order_12 c1 K n v2 μ) := by
  intro n
  induction n with
  | zero => intro v2 μ; exact AW.noth
  | succ n ih =>
    intro v2 μ
    rw [L_Model_order_12]
    refine AW.iload_n (i := 2) (a := v2) (by decide +kernel) rfl (?_ : AW _ _ _ _ 13 _ _ _ _ _ _)
    refine AW.aload_n (i := 0) (a := 0) (by decide +kernel) rfl (?_ : AW _ _ _ _ 14 _ _ _ _ _ _)
    refine AW.getI (idx := 103) (ci := 9) (k := 6) (r := 0) (by decide +kernel) rfl rfl rfl (?_ : AW _ _ _ _ 17 _ _ _ _ _ _)
    refine AW.icmp_ge (off := 38) (tgt := 55) (by decide +kernel) (by decide) (fun _ => ?_) (fun _ => ?_)
    · refine AW.sub (L' := [(0, zR (some 0)), (1, zI c1)]) [0, 1] rfl ?_
      exact hK  μ
    · refine AW.aload_n (i := 0) (a := 0) (by decide +kernel) rfl (?_ : AW _ _ _ _ 21 _ _ _ _ _ _)
      refine AW.dup (by decide +kernel) rfl (?_ : AW _ _ _ _ 22 _ _ _ _ _ _)
      refine AW.getI (idx := 393) (ci := 9) (k := 39) (r := 0) (by decide +kernel) rfl rfl rfl (?_ : AW _ _ _ _ 25 _ _ _ _ _ _)
      refine AW.aload_n (i := 0) (a := 0) (by decide +kernel) rfl (?_ : AW _ _ _ _ 26 _ _ _ _ _ _)
      refine AW.getR (idx := 22) (ci := 9) (k := 7) (r := 0) (by decide +kernel) rfl rfl rfl (?_ : AW _ _ _ _ 29 _ _ _ _ _ _)
      refine AW.iload_n (i := 2) (a := v2) (by decide +kernel) rfl (?_ : AW _ _ _ _ 30 _ _ _ _ _ _)
      refine AW.iconst (n := 3) (by decide +kernel) (?_ : AW _ _ _ _ 31 _ _ _ _ _ _)
      refine AW.callP (g := cf_Model_dealAt) (av := [zI v2, zI 3]) (idx := 166) (n := 2) (st := [zR (some 5), zI (μ 0 39), zR (some 0)]) (by decide +kernel) (fun l hl r hr => c_Model_dealAt l hl v2 3 _ r hr) rfl cal_Model_dealAt rfl (zw3 zm_X9_166 zt_yX9_dealAt zn_X9) ⟨by decide, by decide, by decide, by decide⟩ (Nat.le_of_ble_eq_true rfl) (fun v _ => AW.kI (fun x4 => (?_ : AW _ _ _ _ 34 _ _ _ _ _ _)) v)
      refine AW.lald (r := 5) (by decide +kernel) rfl (fun x5 => (?_ : AW _ _ _ _ 35 _ _ _ _ _ _))
      refine AW.lconst0 (by decide +kernel) (?_ : AW _ _ _ _ 36 _ _ _ _ _ _)
      refine AW.lcmp_ne (off := 7) (tgt := 44) (by decide +kernel) (by decide +kernel) (by decide) (fun _ => ?_) (fun _ => ?_)
      · refine AW.iconst (n := 1) (by decide +kernel) (?_ : AW _ _ _ _ 41 _ _ _ _ _ _)
        refine AW.goto (off := 4) (tgt := 45) (by decide +kernel) (by decide) ?_
        exact j_Model_order_45 c1 ih hK v2 1 (μ 0 39) μ
      · refine AW.iconst (n := 0) (by decide +kernel) (?_ : AW _ _ _ _ 45 _ _ _ _ _ _)
        exact j_Model_order_45 c1 ih hK v2 0 (μ 0 39) μ
def F_Model_order (a1 : Int) (μ : ZMem) : Option ZRes := zLet (zUp μ 0 0 0) (fun μ1 => zLet (zUp μ1 0 39 0) (fun μ2 => L_Model_order_12 a1 (fun μ8 => zLet (zUp μ8 0 40 (-1)) (fun μ9 => zC (F_Model_putsAside  μ9) (zkV (fun μ10 => zC (F_Model_goesOn_0 0 μ10) (zkV (fun μ12 => if w32 a1 = w32 (-1) then (some (.inr (some (zJ (μ12 0 40))), μ12)) else (zC (F_Model_isIn (w32 a1) 0 (w32 ((μ12 0 39) - 1)) μ12) (zkI (fun x15 _ => if w32 x15 = 0 then (some (.inr (some (zJ (-1))), μ12)) else (zRd μ12 24 6 a1 (fun x16 => some (.inr (some (zJ (w32 x16))), μ12))))) zX0))) zX0)) zX0)) zN 0 μ2))
set_option maxRecDepth 100000 in
theorem w_Model_order (a1 : Int) (μ : ZMem) : AW cf_Model_order S_Model.length S_Model S_Model 0 [(0, zR (some 0)), (1, zI a1)] [] μ 0 0 (F_Model_order a1 μ) := by
  unfold F_Model_order
  refine AW.aload_n (i := 0) (a := 0) (by decide +kernel) rfl (?_ : AW _ _ _ _ 1 _ _ _ _ _ _)
  refine AW.iconst (n := 0) (by decide +kernel) (?_ : AW _ _ _ _ 2 _ _ _ _ _ _)
  refine AW.putiL (idx := 93) (ci := 9) (k := 0) (r := 0) (by decide +kernel) rfl rfl rfl (fun μ1 => (?_ : AW _ _ _ _ 5 _ _ _ _ _ _))
  refine AW.aload_n (i := 0) (a := 0) (by decide +kernel) rfl (?_ : AW _ _ _ _ 6 _ _ _ _ _ _)
  refine AW.iconst (n := 0) (by decide +kernel) (?_ : AW _ _ _ _ 7 _ _ _ _ _ _)
  refine AW.putiL (idx := 393) (ci := 9) (k := 39) (r := 0) (by decide +kernel) rfl rfl rfl (fun μ2 => (?_ : AW _ _ _ _ 10 _ _ _ _ _ _))
  refine AW.iconst (n := 0) (by decide +kernel) (?_ : AW _ _ _ _ 11 _ _ _ _ _ _)
  refine AW.istore_n' (i := 2) (L' := [(2, zI 0), (0, zR (some 0)), (1, zI a1)]) (by decide +kernel) (by decide) rfl (?_ : AW _ _ _ _ 12 _ _ _ _ _ _)
  refine AW.sub (L' := [(0, zR (some 0)), (1, zI a1), (2, zI 0)]) [1, 2, 0] rfl ?_
  refine l_Model_order_12 (fun μ8 => ?_) zN _ _
  refine AW.aload_n (i := 0) (a := 0) (by decide +kernel) rfl (?_ : AW _ _ _ _ 56 _ _ _ _ _ _)
  refine AW.ldc2 (idx := 127) (v := -1) (by decide +kernel) zk_X9_127 (?_ : AW _ _ _ _ 59 _ _ _ _ _ _)
  refine AW.putlL (idx := 396) (ci := 9) (k := 40) (r := 0) (by decide +kernel) rfl rfl rfl (fun μ9 => (?_ : AW _ _ _ _ 62 _ _ _ _ _ _))
  refine AW.aload_n (i := 0) (a := 0) (by decide +kernel) rfl (?_ : AW _ _ _ _ 63 _ _ _ _ _ _)
  refine AW.callVw (g := cf_Model_putsAside) (av := []) (b0 := 0) (ci := 9) (idx := 370) (n := 0) (st := []) (by decide +kernel) (fun l hl r hr => c_Model_putsAside l hl  _ r hr) S_Model_wf rfl cal_Model_putsAside rfl (zw4 zm_X9_370 zi_yX9_putsAside zs_yX9_putsAside zn_X9) rfl rfl ⟨by decide, by decide, by decide, by decide⟩ (Nat.le_of_ble_eq_true rfl) (Or.inl rfl) (fun v μ10 => AW.kV (?_ : AW _ _ _ _ 66 _ _ _ _ _ _) v)
  refine AW.aload_n (i := 0) (a := 0) (by decide +kernel) rfl (?_ : AW _ _ _ _ 67 _ _ _ _ _ _)
  refine AW.iconst (n := 0) (by decide +kernel) (?_ : AW _ _ _ _ 68 _ _ _ _ _ _)
  refine AW.iconst (n := 0) (by decide +kernel) (?_ : AW _ _ _ _ 69 _ _ _ _ _ _)
  refine AW.callVw (g := cf_Model_goesOn_0) (av := [zI 0, zI 0]) (b0 := 0) (ci := 9) (idx := 402) (n := 2) (st := []) (by decide +kernel) (fun l hl r hr => c_Model_goesOn_0 l hl 0 _ r hr) S_Model_wf rfl cal_Model_goesOn_0 rfl (zw4 zm_X9_402 zi_yX9_goesOn zs_yX9_goesOn zn_X9) rfl rfl ⟨by decide, by decide, by decide, by decide⟩ (Nat.le_of_ble_eq_true rfl) (Or.inl rfl) (fun v μ12 => AW.kV (?_ : AW _ _ _ _ 72 _ _ _ _ _ _) v)
  refine AW.iload_n (i := 1) (a := a1) (by decide +kernel) rfl (?_ : AW _ _ _ _ 73 _ _ _ _ _ _)
  refine AW.iconst (n := -1) (by decide +kernel) (?_ : AW _ _ _ _ 74 _ _ _ _ _ _)
  refine AW.icmp_ne (off := 10) (tgt := 84) (by decide +kernel) (by decide) (fun _ => ?_) (fun _ => ?_)
  · refine AW.aload_n (i := 0) (a := 0) (by decide +kernel) rfl (?_ : AW _ _ _ _ 78 _ _ _ _ _ _)
    refine AW.getJ (idx := 396) (ci := 9) (k := 40) (r := 0) (by decide +kernel) rfl rfl rfl (?_ : AW _ _ _ _ 81 _ _ _ _ _ _)
    refine AW.goto (off := 32) (tgt := 113) (by decide +kernel) (by decide) ?_
    exact AW.retl (by decide +kernel) rfl (by decide) (by decide)
  · refine AW.iload_n (i := 1) (a := a1) (by decide +kernel) rfl (?_ : AW _ _ _ _ 85 _ _ _ _ _ _)
    refine AW.i2l (by decide +kernel) (?_ : AW _ _ _ _ 86 _ _ _ _ _ _)
    refine AW.lconst0 (by decide +kernel) (?_ : AW _ _ _ _ 87 _ _ _ _ _ _)
    refine AW.aload_n (i := 0) (a := 0) (by decide +kernel) rfl (?_ : AW _ _ _ _ 88 _ _ _ _ _ _)
    refine AW.getI (idx := 393) (ci := 9) (k := 39) (r := 0) (by decide +kernel) rfl rfl rfl (?_ : AW _ _ _ _ 91 _ _ _ _ _ _)
    refine AW.iconst (n := 1) (by decide +kernel) (?_ : AW _ _ _ _ 92 _ _ _ _ _ _)
    refine AW.isub (by decide +kernel) (?_ : AW _ _ _ _ 93 _ _ _ _ _ _)
    refine AW.i2l (by decide +kernel) (?_ : AW _ _ _ _ 94 _ _ _ _ _ _)
    refine AW.callP (g := cf_Model_isIn) (av := [zJ (w32 a1), zJ 0, zJ (w32 ((μ12 0 39) - 1))]) (idx := 99) (n := 3) (st := []) (by decide +kernel) (fun l hl r hr => c_Model_isIn l hl (w32 a1) 0 (w32 ((μ12 0 39) - 1)) _ r hr) rfl cal_Model_isIn rfl (zw3 zm_X9_99 zt_yX9_isIn zn_X9) ⟨by decide, by decide, by decide, by decide⟩ (Nat.le_of_ble_eq_true rfl) (fun v _ => AW.kI (fun x15 => (?_ : AW _ _ _ _ 97 _ _ _ _ _ _)) v)
    refine AW.if_eq (off := 13) (tgt := 110) (by decide +kernel) (by decide) (fun _ => ?_) (fun _ => ?_)
    · refine AW.ldc2 (idx := 127) (v := -1) (by decide +kernel) zk_X9_127 (?_ : AW _ _ _ _ 113 _ _ _ _ _ _)
      exact AW.retl (by decide +kernel) rfl (by decide) (by decide)
    · refine AW.aload_n (i := 0) (a := 0) (by decide +kernel) rfl (?_ : AW _ _ _ _ 101 _ _ _ _ _ _)
      refine AW.getR (idx := 87) (ci := 9) (k := 38) (r := 0) (by decide +kernel) rfl rfl rfl (?_ : AW _ _ _ _ 104 _ _ _ _ _ _)
      refine AW.iload_n (i := 1) (a := a1) (by decide +kernel) rfl (?_ : AW _ _ _ _ 105 _ _ _ _ _ _)
      refine AW.iald (r := 24) (by decide +kernel) rfl (fun x16 => (?_ : AW _ _ _ _ 106 _ _ _ _ _ _))
      refine AW.i2l (by decide +kernel) (?_ : AW _ _ _ _ 107 _ _ _ _ _ _)
      refine AW.goto (off := 6) (tgt := 113) (by decide +kernel) (by decide) ?_
      exact AW.retl (by decide +kernel) rfl (by decide) (by decide)
theorem c_Model_order (l : Launch) (hl : l.stackTraces = false) (a1 : Int) (μ : ZMem) (r : ZRes) (h : F_Model_order a1 μ = some r) : ZC l cf_Model_order S_Model S_Model [zR (some 0), zI a1] μ r := ZC.of hl (by decide +kernel) rfl rfl zft_X9_ok (Nat.le_of_ble_eq_true rfl) h (w_Model_order a1 μ)
/-! WeirLedgerModel.keeps()J -/
def cf_Model_keeps : ZCf := (yX9_keeps, cX9_keeps, 1, some .long, [], 2, 0, 0, zft_X9, none)
theorem cal_Model_keeps : zCallee cf_Model_keeps 0 := ⟨rfl, zc_yX9_keeps, by decide, by decide, by decide +kernel⟩
def F_Model_keeps (μ : ZMem) : Option ZRes := zRd μ 5 92 86 (fun x1 => zRd μ 5 92 89 (fun x2 => some (.inr (some (zJ (x1 - x2))), μ)))
set_option maxRecDepth 100000 in
theorem w_Model_keeps (μ : ZMem) : AW cf_Model_keeps S_Model.length S_Model S_Model 0 [(0, zR (some 0))] [] μ 0 0 (F_Model_keeps μ) := by
  unfold F_Model_keeps
  refine AW.aload_n (i := 0) (a := 0) (by decide +kernel) rfl (?_ : AW _ _ _ _ 1 _ _ _ _ _ _)
  refine AW.getR (idx := 22) (ci := 9) (k := 7) (r := 0) (by decide +kernel) rfl rfl rfl (?_ : AW _ _ _ _ 4 _ _ _ _ _ _)
  refine AW.bipush (n := 86) (by decide +kernel) (by decide +kernel) (?_ : AW _ _ _ _ 6 _ _ _ _ _ _)
  refine AW.lald (r := 5) (by decide +kernel) rfl (fun x1 => (?_ : AW _ _ _ _ 7 _ _ _ _ _ _))
  refine AW.aload_n (i := 0) (a := 0) (by decide +kernel) rfl (?_ : AW _ _ _ _ 8 _ _ _ _ _ _)
  refine AW.getR (idx := 22) (ci := 9) (k := 7) (r := 0) (by decide +kernel) rfl rfl rfl (?_ : AW _ _ _ _ 11 _ _ _ _ _ _)
  refine AW.bipush (n := 89) (by decide +kernel) (by decide +kernel) (?_ : AW _ _ _ _ 13 _ _ _ _ _ _)
  refine AW.lald (r := 5) (by decide +kernel) rfl (fun x2 => (?_ : AW _ _ _ _ 14 _ _ _ _ _ _))
  refine AW.lsub (by decide +kernel) (?_ : AW _ _ _ _ 15 _ _ _ _ _ _)
  exact AW.retl (by decide +kernel) rfl (by decide) (by decide)
theorem c_Model_keeps (l : Launch) (hl : l.stackTraces = false) (μ : ZMem) (r : ZRes) (h : F_Model_keeps μ = some r) : ZC l cf_Model_keeps S_Model S_Model [zR (some 0)] μ r := ZC.of hl (by decide +kernel) rfl rfl zft_X9_ok (Nat.le_of_ble_eq_true rfl) h (w_Model_keeps μ)
/-! WeirLedgerModel.would(II)J -/
def cf_Model_would : ZCf := (yX9_would, cX9_would, 6, some .long, [], 10, 0, 0, zft_X9, none)
theorem cal_Model_would : zCallee cf_Model_would 2 := ⟨rfl, zc_yX9_would, by decide, by decide, by decide +kernel⟩
def J_Model_would_52 (a1 : Int) (a2 : Int) (y0 : Int) (μ : ZMem) : Option ZRes := zLet (zUp μ 0 0 y0) (fun μ7 => if w32 (μ7 0 0) ≤ 0 then (zRd μ7 2 7 a1 (fun x8 => zWr μ7 2 7 a1 a2 (fun μ9 => zC (F_Model_worksOut  μ9) (zkV (fun μ10 => zC (F_Model_keeps  μ10) (zkJ (fun x13 μ12 => zWr μ12 2 7 a1 x8 (fun μ14 => zC (F_Model_worksOut  μ14) (zkV (fun μ15 => some (.inr (some (zJ x13)), μ15))) zX0))) zX0)) zX0))) else (some (.inr (some (zJ 0)), μ7)))
set_option maxRecDepth 100000 in
theorem j_Model_would_52 (a1 : Int) (a2 : Int) (y0 : Int) (μ : ZMem) : AW cf_Model_would S_Model.length S_Model S_Model 52 [(0, zR (some 0)), (1, zI a1), (2, zI a2)] [zI y0, zR (some 0)] μ 0 0 (J_Model_would_52 a1 a2 y0 μ) := by
  unfold J_Model_would_52
  refine AW.putiL (idx := 93) (ci := 9) (k := 0) (r := 0) (by decide +kernel) rfl rfl rfl (fun μ7 => (?_ : AW _ _ _ _ 55 _ _ _ _ _ _))
  refine AW.aload_n (i := 0) (a := 0) (by decide +kernel) rfl (?_ : AW _ _ _ _ 56 _ _ _ _ _ _)
  refine AW.getI (idx := 93) (ci := 9) (k := 0) (r := 0) (by decide +kernel) rfl rfl rfl (?_ : AW _ _ _ _ 59 _ _ _ _ _ _)
  refine AW.if_le (off := 5) (tgt := 64) (by decide +kernel) (by decide) (fun _ => ?_) (fun _ => ?_)
  · refine AW.aload_n (i := 0) (a := 0) (by decide +kernel) rfl (?_ : AW _ _ _ _ 65 _ _ _ _ _ _)
    refine AW.getR (idx := 13) (ci := 9) (k := 2) (r := 0) (by decide +kernel) rfl rfl rfl (?_ : AW _ _ _ _ 68 _ _ _ _ _ _)
    refine AW.iload_n (i := 1) (a := a1) (by decide +kernel) rfl (?_ : AW _ _ _ _ 69 _ _ _ _ _ _)
    refine AW.iald (r := 2) (by decide +kernel) rfl (fun x8 => (?_ : AW _ _ _ _ 70 _ _ _ _ _ _))
    refine AW.istore_n' (i := 3) (L' := [(3, zI x8), (0, zR (some 0)), (1, zI a1), (2, zI a2)]) (by decide +kernel) (by decide) rfl (?_ : AW _ _ _ _ 71 _ _ _ _ _ _)
    refine AW.aload_n (i := 0) (a := 0) (by decide +kernel) rfl (?_ : AW _ _ _ _ 72 _ _ _ _ _ _)
    refine AW.getR (idx := 13) (ci := 9) (k := 2) (r := 0) (by decide +kernel) rfl rfl rfl (?_ : AW _ _ _ _ 75 _ _ _ _ _ _)
    refine AW.iload_n (i := 1) (a := a1) (by decide +kernel) rfl (?_ : AW _ _ _ _ 76 _ _ _ _ _ _)
    refine AW.iload_n (i := 2) (a := a2) (by decide +kernel) rfl (?_ : AW _ _ _ _ 77 _ _ _ _ _ _)
    refine AW.iastL (r := 2) (by decide +kernel) rfl (fun μ9 => (?_ : AW _ _ _ _ 78 _ _ _ _ _ _))
    refine AW.aload_n (i := 0) (a := 0) (by decide +kernel) rfl (?_ : AW _ _ _ _ 79 _ _ _ _ _ _)
    refine AW.callVw (g := cf_Model_worksOut) (av := []) (b0 := 0) (ci := 9) (idx := 342) (n := 0) (st := []) (by decide +kernel) (fun l hl r hr => c_Model_worksOut l hl  _ r hr) S_Model_wf rfl cal_Model_worksOut rfl (zw4 zm_X9_342 zi_yX9_worksOut zs_yX9_worksOut zn_X9) rfl rfl ⟨by decide, by decide, by decide, by decide⟩ (Nat.le_of_ble_eq_true rfl) (Or.inl rfl) (fun v μ10 => AW.kV (?_ : AW _ _ _ _ 82 _ _ _ _ _ _) v)
    refine AW.aload_n (i := 0) (a := 0) (by decide +kernel) rfl (?_ : AW _ _ _ _ 83 _ _ _ _ _ _)
    refine AW.callVw (g := cf_Model_keeps) (av := []) (b0 := 0) (ci := 9) (idx := 405) (n := 0) (st := []) (by decide +kernel) (fun l hl r hr => c_Model_keeps l hl  _ r hr) S_Model_wf rfl cal_Model_keeps rfl (zw4 zm_X9_405 zi_yX9_keeps zs_yX9_keeps zn_X9) rfl rfl ⟨by decide, by decide, by decide, by decide⟩ (Nat.le_of_ble_eq_true rfl) (Or.inl rfl) (fun v μ12 => AW.kJ (fun x13 => (?_ : AW _ _ _ _ 86 _ _ _ _ _ _)) v)
    refine AW.lstore' (i := 4) (L' := [(4, zJ x13), (3, zI x8), (0, zR (some 0)), (1, zI a1), (2, zI a2)]) (by decide +kernel) (by decide) rfl (?_ : AW _ _ _ _ 88 _ _ _ _ _ _)
    refine AW.aload_n (i := 0) (a := 0) (by decide +kernel) rfl (?_ : AW _ _ _ _ 89 _ _ _ _ _ _)
    refine AW.getR (idx := 13) (ci := 9) (k := 2) (r := 0) (by decide +kernel) rfl rfl rfl (?_ : AW _ _ _ _ 92 _ _ _ _ _ _)
    refine AW.iload_n (i := 1) (a := a1) (by decide +kernel) rfl (?_ : AW _ _ _ _ 93 _ _ _ _ _ _)
    refine AW.iload_n (i := 3) (a := x8) (by decide +kernel) rfl (?_ : AW _ _ _ _ 94 _ _ _ _ _ _)
    refine AW.iastL (r := 2) (by decide +kernel) rfl (fun μ14 => (?_ : AW _ _ _ _ 95 _ _ _ _ _ _))
    refine AW.aload_n (i := 0) (a := 0) (by decide +kernel) rfl (?_ : AW _ _ _ _ 96 _ _ _ _ _ _)
    refine AW.callVw (g := cf_Model_worksOut) (av := []) (b0 := 0) (ci := 9) (idx := 342) (n := 0) (st := []) (by decide +kernel) (fun l hl r hr => c_Model_worksOut l hl  _ r hr) S_Model_wf rfl cal_Model_worksOut rfl (zw4 zm_X9_342 zi_yX9_worksOut zs_yX9_worksOut zn_X9) rfl rfl ⟨by decide, by decide, by decide, by decide⟩ (Nat.le_of_ble_eq_true rfl) (Or.inl rfl) (fun v μ15 => AW.kV (?_ : AW _ _ _ _ 99 _ _ _ _ _ _) v)
    refine AW.lload (i := 4) (a := x13) (by decide +kernel) rfl (?_ : AW _ _ _ _ 101 _ _ _ _ _ _)
    exact AW.retl (by decide +kernel) rfl (by decide) (by decide)
  · refine AW.lconst0 (by decide +kernel) (?_ : AW _ _ _ _ 63 _ _ _ _ _ _)
    exact AW.retl (by decide +kernel) rfl (by decide) (by decide)
def J_Model_would_18 (a1 : Int) (a2 : Int) (y0 : Int) (μ : ZMem) : Option ZRes := zLet (zUp μ 0 0 y0) (fun μ3 => if w32 (μ3 0 0) ≤ 0 then (zRd μ3 1 7 a1 (fun x4 => zC (F_Model_isIn (w32 a2) 0 (w32 x4) μ3) (zkI (fun x6 _ => if w32 x6 = 0 then (J_Model_would_52 a1 a2 2 μ3) else (J_Model_would_52 a1 a2 0 μ3))) zX0)) else (some (.inr (some (zJ 0)), μ3)))
set_option maxRecDepth 100000 in
theorem j_Model_would_18 (a1 : Int) (a2 : Int) (y0 : Int) (μ : ZMem) : AW cf_Model_would S_Model.length S_Model S_Model 18 [(0, zR (some 0)), (1, zI a1), (2, zI a2)] [zI y0, zR (some 0)] μ 0 0 (J_Model_would_18 a1 a2 y0 μ) := by
  unfold J_Model_would_18
  refine AW.putiL (idx := 93) (ci := 9) (k := 0) (r := 0) (by decide +kernel) rfl rfl rfl (fun μ3 => (?_ : AW _ _ _ _ 21 _ _ _ _ _ _))
  refine AW.aload_n (i := 0) (a := 0) (by decide +kernel) rfl (?_ : AW _ _ _ _ 22 _ _ _ _ _ _)
  refine AW.getI (idx := 93) (ci := 9) (k := 0) (r := 0) (by decide +kernel) rfl rfl rfl (?_ : AW _ _ _ _ 25 _ _ _ _ _ _)
  refine AW.if_le (off := 5) (tgt := 30) (by decide +kernel) (by decide) (fun _ => ?_) (fun _ => ?_)
  · refine AW.aload_n (i := 0) (a := 0) (by decide +kernel) rfl (?_ : AW _ _ _ _ 31 _ _ _ _ _ _)
    refine AW.iload_n (i := 2) (a := a2) (by decide +kernel) rfl (?_ : AW _ _ _ _ 32 _ _ _ _ _ _)
    refine AW.i2l (by decide +kernel) (?_ : AW _ _ _ _ 33 _ _ _ _ _ _)
    refine AW.lconst0 (by decide +kernel) (?_ : AW _ _ _ _ 34 _ _ _ _ _ _)
    refine AW.aload_n (i := 0) (a := 0) (by decide +kernel) rfl (?_ : AW _ _ _ _ 35 _ _ _ _ _ _)
    refine AW.getR (idx := 7) (ci := 9) (k := 1) (r := 0) (by decide +kernel) rfl rfl rfl (?_ : AW _ _ _ _ 38 _ _ _ _ _ _)
    refine AW.iload_n (i := 1) (a := a1) (by decide +kernel) rfl (?_ : AW _ _ _ _ 39 _ _ _ _ _ _)
    refine AW.iald (r := 1) (by decide +kernel) rfl (fun x4 => (?_ : AW _ _ _ _ 40 _ _ _ _ _ _))
    refine AW.i2l (by decide +kernel) (?_ : AW _ _ _ _ 41 _ _ _ _ _ _)
    refine AW.callP (g := cf_Model_isIn) (av := [zJ (w32 a2), zJ 0, zJ (w32 x4)]) (idx := 99) (n := 3) (st := [zR (some 0)]) (by decide +kernel) (fun l hl r hr => c_Model_isIn l hl (w32 a2) 0 (w32 x4) _ r hr) rfl cal_Model_isIn rfl (zw3 zm_X9_99 zt_yX9_isIn zn_X9) ⟨by decide, by decide, by decide, by decide⟩ (Nat.le_of_ble_eq_true rfl) (fun v _ => AW.kI (fun x6 => (?_ : AW _ _ _ _ 44 _ _ _ _ _ _)) v)
    refine AW.if_eq (off := 7) (tgt := 51) (by decide +kernel) (by decide) (fun _ => ?_) (fun _ => ?_)
    · refine AW.iconst (n := 2) (by decide +kernel) (?_ : AW _ _ _ _ 52 _ _ _ _ _ _)
      exact j_Model_would_52 a1 a2 2 μ3
    · refine AW.iconst (n := 0) (by decide +kernel) (?_ : AW _ _ _ _ 48 _ _ _ _ _ _)
      refine AW.goto (off := 4) (tgt := 52) (by decide +kernel) (by decide) ?_
      exact j_Model_would_52 a1 a2 0 μ3
  · refine AW.lconst0 (by decide +kernel) (?_ : AW _ _ _ _ 29 _ _ _ _ _ _)
    exact AW.retl (by decide +kernel) rfl (by decide) (by decide)
def F_Model_would (a1 : Int) (a2 : Int) (μ : ZMem) : Option ZRes := zC (F_Model_isIn (w32 a1) 0 5 μ) (zkI (fun x2 _ => if w32 x2 = 0 then (J_Model_would_18 a1 a2 1 μ) else (J_Model_would_18 a1 a2 0 μ))) zX0
set_option maxRecDepth 100000 in
theorem w_Model_would (a1 : Int) (a2 : Int) (μ : ZMem) : AW cf_Model_would S_Model.length S_Model S_Model 0 [(0, zR (some 0)), (1, zI a1), (2, zI a2)] [] μ 0 0 (F_Model_would a1 a2 μ) := by
  unfold F_Model_would
  refine AW.aload_n (i := 0) (a := 0) (by decide +kernel) rfl (?_ : AW _ _ _ _ 1 _ _ _ _ _ _)
  refine AW.iload_n (i := 1) (a := a1) (by decide +kernel) rfl (?_ : AW _ _ _ _ 2 _ _ _ _ _ _)
  refine AW.i2l (by decide +kernel) (?_ : AW _ _ _ _ 3 _ _ _ _ _ _)
  refine AW.lconst0 (by decide +kernel) (?_ : AW _ _ _ _ 4 _ _ _ _ _ _)
  refine AW.ldc2 (idx := 351) (v := 5) (by decide +kernel) zk_X9_351 (?_ : AW _ _ _ _ 7 _ _ _ _ _ _)
  refine AW.callP (g := cf_Model_isIn) (av := [zJ (w32 a1), zJ 0, zJ 5]) (idx := 99) (n := 3) (st := [zR (some 0)]) (by decide +kernel) (fun l hl r hr => c_Model_isIn l hl (w32 a1) 0 5 _ r hr) rfl cal_Model_isIn rfl (zw3 zm_X9_99 zt_yX9_isIn zn_X9) ⟨by decide, by decide, by decide, by decide⟩ (Nat.le_of_ble_eq_true rfl) (fun v _ => AW.kI (fun x2 => (?_ : AW _ _ _ _ 10 _ _ _ _ _ _)) v)
  refine AW.if_ne (off := 7) (tgt := 17) (by decide +kernel) (by decide) (fun _ => ?_) (fun _ => ?_)
  · refine AW.iconst (n := 1) (by decide +kernel) (?_ : AW _ _ _ _ 14 _ _ _ _ _ _)
    refine AW.goto (off := 4) (tgt := 18) (by decide +kernel) (by decide) ?_
    exact j_Model_would_18 a1 a2 1 μ
  · refine AW.iconst (n := 0) (by decide +kernel) (?_ : AW _ _ _ _ 18 _ _ _ _ _ _)
    exact j_Model_would_18 a1 a2 0 μ
theorem c_Model_would (l : Launch) (hl : l.stackTraces = false) (a1 : Int) (a2 : Int) (μ : ZMem) (r : ZRes) (h : F_Model_would a1 a2 μ = some r) : ZC l cf_Model_would S_Model S_Model [zR (some 0), zI a1, zI a2] μ r := ZC.of hl (by decide +kernel) rfl rfl zft_X9_ok (Nat.le_of_ble_eq_true rfl) h (w_Model_would a1 a2 μ)
/-! WeirLedgerModel.keptBy(I)J -/
def cf_Model_keptBy : ZCf := (yX9_keptBy, cX9_keptBy, 2, some .long, [], 10, 0, 0, zft_X9, none)
theorem cal_Model_keptBy : zCallee cf_Model_keptBy 1 := ⟨rfl, zc_yX9_keptBy, by decide, by decide, by decide +kernel⟩
def F_Model_keptBy (a1 : Int) (μ : ZMem) : Option ZRes := zWr μ 2 7 0 a1 (fun μ1 => zC (F_Model_worksOut  μ1) (zkV (fun μ2 => zC (F_Model_keeps  μ2) (zkJ (fun x5 μ4 => some (.inr (some (zJ x5)), μ4))) zX0)) zX0)
set_option maxRecDepth 100000 in
theorem w_Model_keptBy (a1 : Int) (μ : ZMem) : AW cf_Model_keptBy S_Model.length S_Model S_Model 0 [(0, zR (some 0)), (1, zI a1)] [] μ 0 0 (F_Model_keptBy a1 μ) := by
  unfold F_Model_keptBy
  refine AW.aload_n (i := 0) (a := 0) (by decide +kernel) rfl (?_ : AW _ _ _ _ 1 _ _ _ _ _ _)
  refine AW.getR (idx := 13) (ci := 9) (k := 2) (r := 0) (by decide +kernel) rfl rfl rfl (?_ : AW _ _ _ _ 4 _ _ _ _ _ _)
  refine AW.iconst (n := 0) (by decide +kernel) (?_ : AW _ _ _ _ 5 _ _ _ _ _ _)
  refine AW.iload_n (i := 1) (a := a1) (by decide +kernel) rfl (?_ : AW _ _ _ _ 6 _ _ _ _ _ _)
  refine AW.iastL (r := 2) (by decide +kernel) rfl (fun μ1 => (?_ : AW _ _ _ _ 7 _ _ _ _ _ _))
  refine AW.aload_n (i := 0) (a := 0) (by decide +kernel) rfl (?_ : AW _ _ _ _ 8 _ _ _ _ _ _)
  refine AW.callVw (g := cf_Model_worksOut) (av := []) (b0 := 0) (ci := 9) (idx := 342) (n := 0) (st := []) (by decide +kernel) (fun l hl r hr => c_Model_worksOut l hl  _ r hr) S_Model_wf rfl cal_Model_worksOut rfl (zw4 zm_X9_342 zi_yX9_worksOut zs_yX9_worksOut zn_X9) rfl rfl ⟨by decide, by decide, by decide, by decide⟩ (Nat.le_of_ble_eq_true rfl) (Or.inl rfl) (fun v μ2 => AW.kV (?_ : AW _ _ _ _ 11 _ _ _ _ _ _) v)
  refine AW.aload_n (i := 0) (a := 0) (by decide +kernel) rfl (?_ : AW _ _ _ _ 12 _ _ _ _ _ _)
  refine AW.callVw (g := cf_Model_keeps) (av := []) (b0 := 0) (ci := 9) (idx := 405) (n := 0) (st := []) (by decide +kernel) (fun l hl r hr => c_Model_keeps l hl  _ r hr) S_Model_wf rfl cal_Model_keeps rfl (zw4 zm_X9_405 zi_yX9_keeps zs_yX9_keeps zn_X9) rfl rfl ⟨by decide, by decide, by decide, by decide⟩ (Nat.le_of_ble_eq_true rfl) (Or.inl rfl) (fun v μ4 => AW.kJ (fun x5 => (?_ : AW _ _ _ _ 15 _ _ _ _ _ _)) v)
  exact AW.retl (by decide +kernel) rfl (by decide) (by decide)
theorem c_Model_keptBy (l : Launch) (hl : l.stackTraces = false) (a1 : Int) (μ : ZMem) (r : ZRes) (h : F_Model_keptBy a1 μ = some r) : ZC l cf_Model_keptBy S_Model S_Model [zR (some 0), zI a1] μ r := ZC.of hl (by decide +kernel) rfl rfl zft_X9_ok (Nat.le_of_ble_eq_true rfl) h (w_Model_keptBy a1 μ)
/-! WeirLedgerModel.bar(I)I -/
def cf_Model_bar : ZCf := (yX9_bar, cX9_bar, 4, some .int, [], 11, 0, 0, zft_X9, none)
theorem cal_Model_bar : zCallee cf_Model_bar 1 := ⟨rfl, zc_yX9_bar, by decide, by decide, by decide +kernel⟩
def L_Model_bar_44 (c1 : Int) (c2 : Int) (K : Int → ZMem → Option ZRes) : Nat → Int → ZMem → Option ZRes
  | 0, _, _ => none
  | n + 1, v3, μ => if w32 v3 < 0 then (K v3 μ) else (zC (F_Model_keptBy v3 μ) (zkJ (fun x7 μ6 => if w64 (w32 c1) ≤ w64 x7 then (K v3 μ6) else (zLet (v3 + (-1)) (fun x8 => L_Model_bar_44 c1 c2 K n x8 μ6)))) zX0)
set_option maxRecDepth 100000 in
theorem l_Model_bar_44 {c1 : Int} {c2 : Int} {K : Int → ZMem → Option ZRes} (hK : ∀ (k3 : Int) (μ : ZMem), AW cf_Model_bar S_Model.length S_Model S_Model 65 [(0, zR (some 0)), (2, zI c2), (3, zI k3)] [] μ 0 0 (K k3 μ)) : ∀ (n : Nat) (v3 : Int) (μ : ZMem), AW cf_Model_bar S_Model.length S_Model S_Model 44 [(0, zR (some 0)), (1, zI c1), (2, zI c2), (3, zI v3)] [] μ 0 0 (L_Model_bar_44 c1 c2 K n v3 μ) := by
  intro n
  induction n with
  | zero => intro v3 μ; exact AW.noth
  | succ n ih =>
    intro v3 μ
    rw [L_Model_bar_44]
    refine AW.iload_n (i := 3) (a := v3) (by decide +kernel) rfl (?_ : AW _ _ _ _ 45 _ _ _ _ _ _)
    refine AW.if_lt (off := 20) (tgt := 65) (by decide +kernel) (by decide) (fun _ => ?_) (fun _ => ?_)
    · refine AW.sub (L' := [(0, zR (some 0)), (2, zI c2), (3, zI v3)]) [0, 2, 3] rfl ?_
      exact hK v3 μ
    · refine AW.aload_n (i := 0) (a := 0) (by decide +kernel) rfl (?_ : AW _ _ _ _ 49 _ _ _ _ _ _)
      refine AW.iload_n (i := 3) (a := v3) (by decide +kernel) rfl (?_ : AW _ _ _ _ 50 _ _ _ _ _ _)
      refine AW.callVw (g := cf_Model_keptBy) (av := [zI v3]) (b0 := 0) (ci := 9) (idx := 408) (n := 1) (st := []) (by decide +kernel) (fun l hl r hr => c_Model_keptBy l hl v3 _ r hr) S_Model_wf rfl cal_Model_keptBy rfl (zw4 zm_X9_408 zi_yX9_keptBy zs_yX9_keptBy zn_X9) rfl rfl ⟨by decide, by decide, by decide, by decide⟩ (Nat.le_of_ble_eq_true rfl) (Or.inl rfl) (fun v μ6 => AW.kJ (fun x7 => (?_ : AW _ _ _ _ 53 _ _ _ _ _ _)) v)
      refine AW.iload_n (i := 1) (a := c1) (by decide +kernel) rfl (?_ : AW _ _ _ _ 54 _ _ _ _ _ _)
      refine AW.i2l (by decide +kernel) (?_ : AW _ _ _ _ 55 _ _ _ _ _ _)
      refine AW.lcmp_ge (off := 9) (tgt := 65) (by decide +kernel) (by decide +kernel) (by decide) (fun _ => ?_) (fun _ => ?_)
      · refine AW.sub (L' := [(0, zR (some 0)), (2, zI c2), (3, zI v3)]) [0, 2, 3] rfl ?_
        exact hK v3 μ6
      · refine AW.iincL (i := 3) (n := -1) (a := v3) (L' := fun x8 => [(3, zI x8), (0, zR (some 0)), (1, zI c1), (2, zI c2)]) (by decide +kernel) rfl (by decide) (fun _ => rfl) (fun x8 => (?_ : AW _ _ _ _ 62 _ _ _ _ _ _))
        refine AW.goto (off := -18) (tgt := 44) (by decide +kernel) (by decide) ?_
        refine AW.sub (L' := [(0, zR (some 0)), (1, zI c1), (2, zI c2), (3, zI x8)]) [1, 2, 3, 0] rfl ?_
        exact ih x8 μ6
def J_Model_bar_18 (a1 : Int) (y0 : Int) (μ : ZMem) : Option ZRes := zLet (zUp μ 0 0 y0) (fun μ3 => if w32 (μ3 0 0) ≤ 0 then (zRd μ3 2 7 0 (fun x4 => zRd μ3 1 7 0 (fun x5 => L_Model_bar_44 a1 x4 (fun k10 μ9 => zWr μ9 2 7 0 x4 (fun μ11 => zC (F_Model_worksOut  μ11) (zkV (fun μ12 => some (.inr (some (zI k10)), μ12))) zX0)) zN x5 μ3))) else (some (.inr (some (zI 0)), μ3)))
set_option maxRecDepth 100000 in
theorem j_Model_bar_18 (a1 : Int) (y0 : Int) (μ : ZMem) : AW cf_Model_bar S_Model.length S_Model S_Model 18 [(0, zR (some 0)), (1, zI a1)] [zI y0, zR (some 0)] μ 0 0 (J_Model_bar_18 a1 y0 μ) := by
  unfold J_Model_bar_18
  refine AW.putiL (idx := 93) (ci := 9) (k := 0) (r := 0) (by decide +kernel) rfl rfl rfl (fun μ3 => (?_ : AW _ _ _ _ 21 _ _ _ _ _ _))
  refine AW.aload_n (i := 0) (a := 0) (by decide +kernel) rfl (?_ : AW _ _ _ _ 22 _ _ _ _ _ _)
  refine AW.getI (idx := 93) (ci := 9) (k := 0) (r := 0) (by decide +kernel) rfl rfl rfl (?_ : AW _ _ _ _ 25 _ _ _ _ _ _)
  refine AW.if_le (off := 5) (tgt := 30) (by decide +kernel) (by decide) (fun _ => ?_) (fun _ => ?_)
  · refine AW.aload_n (i := 0) (a := 0) (by decide +kernel) rfl (?_ : AW _ _ _ _ 31 _ _ _ _ _ _)
    refine AW.getR (idx := 13) (ci := 9) (k := 2) (r := 0) (by decide +kernel) rfl rfl rfl (?_ : AW _ _ _ _ 34 _ _ _ _ _ _)
    refine AW.iconst (n := 0) (by decide +kernel) (?_ : AW _ _ _ _ 35 _ _ _ _ _ _)
    refine AW.iald (r := 2) (by decide +kernel) rfl (fun x4 => (?_ : AW _ _ _ _ 36 _ _ _ _ _ _))
    refine AW.istore_n' (i := 2) (L' := [(2, zI x4), (0, zR (some 0)), (1, zI a1)]) (by decide +kernel) (by decide) rfl (?_ : AW _ _ _ _ 37 _ _ _ _ _ _)
    refine AW.aload_n (i := 0) (a := 0) (by decide +kernel) rfl (?_ : AW _ _ _ _ 38 _ _ _ _ _ _)
    refine AW.getR (idx := 7) (ci := 9) (k := 1) (r := 0) (by decide +kernel) rfl rfl rfl (?_ : AW _ _ _ _ 41 _ _ _ _ _ _)
    refine AW.iconst (n := 0) (by decide +kernel) (?_ : AW _ _ _ _ 42 _ _ _ _ _ _)
    refine AW.iald (r := 1) (by decide +kernel) rfl (fun x5 => (?_ : AW _ _ _ _ 43 _ _ _ _ _ _))
    refine AW.istore_n' (i := 3) (L' := [(3, zI x5), (2, zI x4), (0, zR (some 0)), (1, zI a1)]) (by decide +kernel) (by decide) rfl (?_ : AW _ _ _ _ 44 _ _ _ _ _ _)
    refine AW.sub (L' := [(0, zR (some 0)), (1, zI a1), (2, zI x4), (3, zI x5)]) [2, 3, 1, 0] rfl ?_
    refine l_Model_bar_44 (fun k10 μ9 => ?_) zN _ _
    refine AW.aload_n (i := 0) (a := 0) (by decide +kernel) rfl (?_ : AW _ _ _ _ 66 _ _ _ _ _ _)
    refine AW.getR (idx := 13) (ci := 9) (k := 2) (r := 0) (by decide +kernel) rfl rfl rfl (?_ : AW _ _ _ _ 69 _ _ _ _ _ _)
    refine AW.iconst (n := 0) (by decide +kernel) (?_ : AW _ _ _ _ 70 _ _ _ _ _ _)
    refine AW.iload_n (i := 2) (a := x4) (by decide +kernel) rfl (?_ : AW _ _ _ _ 71 _ _ _ _ _ _)
    refine AW.iastL (r := 2) (by decide +kernel) rfl (fun μ11 => (?_ : AW _ _ _ _ 72 _ _ _ _ _ _))
    refine AW.aload_n (i := 0) (a := 0) (by decide +kernel) rfl (?_ : AW _ _ _ _ 73 _ _ _ _ _ _)
    refine AW.callVw (g := cf_Model_worksOut) (av := []) (b0 := 0) (ci := 9) (idx := 342) (n := 0) (st := []) (by decide +kernel) (fun l hl r hr => c_Model_worksOut l hl  _ r hr) S_Model_wf rfl cal_Model_worksOut rfl (zw4 zm_X9_342 zi_yX9_worksOut zs_yX9_worksOut zn_X9) rfl rfl ⟨by decide, by decide, by decide, by decide⟩ (Nat.le_of_ble_eq_true rfl) (Or.inl rfl) (fun v μ12 => AW.kV (?_ : AW _ _ _ _ 76 _ _ _ _ _ _) v)
    refine AW.iload_n (i := 3) (a := k10) (by decide +kernel) rfl (?_ : AW _ _ _ _ 77 _ _ _ _ _ _)
    exact AW.reti (by decide +kernel) rfl (by decide) (by decide)
  · refine AW.iconst (n := 0) (by decide +kernel) (?_ : AW _ _ _ _ 29 _ _ _ _ _ _)
    exact AW.reti (by decide +kernel) rfl (by decide) (by decide)
def F_Model_bar (a1 : Int) (μ : ZMem) : Option ZRes := zC (F_Model_isIn (w32 a1) 0 99999 μ) (zkI (fun x2 _ => if w32 x2 = 0 then (J_Model_bar_18 a1 1 μ) else (J_Model_bar_18 a1 0 μ))) zX0
set_option maxRecDepth 100000 in
theorem w_Model_bar (a1 : Int) (μ : ZMem) : AW cf_Model_bar S_Model.length S_Model S_Model 0 [(0, zR (some 0)), (1, zI a1)] [] μ 0 0 (F_Model_bar a1 μ) := by
  unfold F_Model_bar
  refine AW.aload_n (i := 0) (a := 0) (by decide +kernel) rfl (?_ : AW _ _ _ _ 1 _ _ _ _ _ _)
  refine AW.iload_n (i := 1) (a := a1) (by decide +kernel) rfl (?_ : AW _ _ _ _ 2 _ _ _ _ _ _)
  refine AW.i2l (by decide +kernel) (?_ : AW _ _ _ _ 3 _ _ _ _ _ _)
  refine AW.lconst0 (by decide +kernel) (?_ : AW _ _ _ _ 4 _ _ _ _ _ _)
  refine AW.ldc2 (idx := 368) (v := 99999) (by decide +kernel) zk_X9_368 (?_ : AW _ _ _ _ 7 _ _ _ _ _ _)
  refine AW.callP (g := cf_Model_isIn) (av := [zJ (w32 a1), zJ 0, zJ 99999]) (idx := 99) (n := 3) (st := [zR (some 0)]) (by decide +kernel) (fun l hl r hr => c_Model_isIn l hl (w32 a1) 0 99999 _ r hr) rfl cal_Model_isIn rfl (zw3 zm_X9_99 zt_yX9_isIn zn_X9) ⟨by decide, by decide, by decide, by decide⟩ (Nat.le_of_ble_eq_true rfl) (fun v _ => AW.kI (fun x2 => (?_ : AW _ _ _ _ 10 _ _ _ _ _ _)) v)
  refine AW.if_eq (off := 7) (tgt := 17) (by decide +kernel) (by decide) (fun _ => ?_) (fun _ => ?_)
  · refine AW.iconst (n := 1) (by decide +kernel) (?_ : AW _ _ _ _ 18 _ _ _ _ _ _)
    exact j_Model_bar_18 a1 1 μ
  · refine AW.iconst (n := 0) (by decide +kernel) (?_ : AW _ _ _ _ 14 _ _ _ _ _ _)
    refine AW.goto (off := 4) (tgt := 18) (by decide +kernel) (by decide) ?_
    exact j_Model_bar_18 a1 0 μ
theorem c_Model_bar (l : Launch) (hl : l.stackTraces = false) (a1 : Int) (μ : ZMem) (r : ZRes) (h : F_Model_bar a1 μ = some r) : ZC l cf_Model_bar S_Model S_Model [zR (some 0), zI a1] μ r := ZC.of hl (by decide +kernel) rfl rfl zft_X9_ok (Nat.le_of_ble_eq_true rfl) h (w_Model_bar a1 μ)
/-! WeirLedgerModel.drift(I)J -/
def cf_Model_drift : ZCf := (yX9_drift, cX9_drift, 2, some .long, [], 5, 0, 0, zft_X9, none)
theorem cal_Model_drift : zCallee cf_Model_drift 1 := ⟨rfl, zc_yX9_drift, by decide, by decide, by decide +kernel⟩
def J_Model_drift_14 (a1 : Int) (y0 : Int) (μ : ZMem) : Option ZRes := zLet (zUp μ 0 0 y0) (fun μ3 => if w32 (μ3 0 0) ≤ 0 then (zC (F_Model_gotAll  μ3) (zkJ (fun x5 μ4 => zC (F_Model_byWeights x5 (-1) μ4) (zkV (fun μ6 => zC (F_Model_placeOf a1 3 μ6) (zkI (fun x9 _ => zRd μ6 5 92 x9 (fun x10 => zRd μ6 20 6 a1 (fun x11 => some (.inr (some (zJ (x10 - x11))), μ6))))) zX0)) zX0)) zX0) else (some (.inr (some (zJ 0)), μ3)))
set_option maxRecDepth 100000 in
theorem j_Model_drift_14 (a1 : Int) (y0 : Int) (μ : ZMem) : AW cf_Model_drift S_Model.length S_Model S_Model 14 [(0, zR (some 0)), (1, zI a1)] [zI y0, zR (some 0)] μ 0 0 (J_Model_drift_14 a1 y0 μ) := by
  unfold J_Model_drift_14
  refine AW.putiL (idx := 93) (ci := 9) (k := 0) (r := 0) (by decide +kernel) rfl rfl rfl (fun μ3 => (?_ : AW _ _ _ _ 17 _ _ _ _ _ _))
  refine AW.aload_n (i := 0) (a := 0) (by decide +kernel) rfl (?_ : AW _ _ _ _ 18 _ _ _ _ _ _)
  refine AW.getI (idx := 93) (ci := 9) (k := 0) (r := 0) (by decide +kernel) rfl rfl rfl (?_ : AW _ _ _ _ 21 _ _ _ _ _ _)
  refine AW.if_le (off := 5) (tgt := 26) (by decide +kernel) (by decide) (fun _ => ?_) (fun _ => ?_)
  · refine AW.aload_n (i := 0) (a := 0) (by decide +kernel) rfl (?_ : AW _ _ _ _ 27 _ _ _ _ _ _)
    refine AW.aload_n (i := 0) (a := 0) (by decide +kernel) rfl (?_ : AW _ _ _ _ 28 _ _ _ _ _ _)
    refine AW.callVw (g := cf_Model_gotAll) (av := []) (b0 := 0) (ci := 9) (idx := 390) (n := 0) (st := [zR (some 0)]) (by decide +kernel) (fun l hl r hr => c_Model_gotAll l hl  _ r hr) S_Model_wf rfl cal_Model_gotAll rfl (zw4 zm_X9_390 zi_yX9_gotAll zs_yX9_gotAll zn_X9) rfl rfl ⟨by decide, by decide, by decide, by decide⟩ (Nat.le_of_ble_eq_true rfl) (Or.inl rfl) (fun v μ4 => AW.kJ (fun x5 => (?_ : AW _ _ _ _ 31 _ _ _ _ _ _)) v)
    refine AW.iconst (n := -1) (by decide +kernel) (?_ : AW _ _ _ _ 32 _ _ _ _ _ _)
    refine AW.callVw (g := cf_Model_byWeights) (av := [zJ x5, zI (-1)]) (b0 := 0) (ci := 9) (idx := 137) (n := 2) (st := []) (by decide +kernel) (fun l hl r hr => c_Model_byWeights l hl x5 (-1) _ r hr) S_Model_wf rfl cal_Model_byWeights rfl (zw4 zm_X9_137 zi_yX9_byWeights zs_yX9_byWeights zn_X9) rfl rfl ⟨by decide, by decide, by decide, by decide⟩ (Nat.le_of_ble_eq_true rfl) (Or.inl rfl) (fun v μ6 => AW.kV (?_ : AW _ _ _ _ 35 _ _ _ _ _ _) v)
    refine AW.aload_n (i := 0) (a := 0) (by decide +kernel) rfl (?_ : AW _ _ _ _ 36 _ _ _ _ _ _)
    refine AW.getR (idx := 22) (ci := 9) (k := 7) (r := 0) (by decide +kernel) rfl rfl rfl (?_ : AW _ _ _ _ 39 _ _ _ _ _ _)
    refine AW.iload_n (i := 1) (a := a1) (by decide +kernel) rfl (?_ : AW _ _ _ _ 40 _ _ _ _ _ _)
    refine AW.iconst (n := 3) (by decide +kernel) (?_ : AW _ _ _ _ 41 _ _ _ _ _ _)
    refine AW.callP (g := cf_Model_placeOf) (av := [zI a1, zI 3]) (idx := 110) (n := 2) (st := [zR (some 5)]) (by decide +kernel) (fun l hl r hr => c_Model_placeOf l hl a1 3 _ r hr) rfl cal_Model_placeOf rfl (zw3 zm_X9_110 zt_yX9_placeOf zn_X9) ⟨by decide, by decide, by decide, by decide⟩ (Nat.le_of_ble_eq_true rfl) (fun v _ => AW.kI (fun x9 => (?_ : AW _ _ _ _ 44 _ _ _ _ _ _)) v)
    refine AW.lald (r := 5) (by decide +kernel) rfl (fun x10 => (?_ : AW _ _ _ _ 45 _ _ _ _ _ _))
    refine AW.aload_n (i := 0) (a := 0) (by decide +kernel) rfl (?_ : AW _ _ _ _ 46 _ _ _ _ _ _)
    refine AW.getR (idx := 75) (ci := 9) (k := 32) (r := 0) (by decide +kernel) rfl rfl rfl (?_ : AW _ _ _ _ 49 _ _ _ _ _ _)
    refine AW.iload_n (i := 1) (a := a1) (by decide +kernel) rfl (?_ : AW _ _ _ _ 50 _ _ _ _ _ _)
    refine AW.lald (r := 20) (by decide +kernel) rfl (fun x11 => (?_ : AW _ _ _ _ 51 _ _ _ _ _ _))
    refine AW.lsub (by decide +kernel) (?_ : AW _ _ _ _ 52 _ _ _ _ _ _)
    exact AW.retl (by decide +kernel) rfl (by decide) (by decide)
  · refine AW.lconst0 (by decide +kernel) (?_ : AW _ _ _ _ 25 _ _ _ _ _ _)
    exact AW.retl (by decide +kernel) rfl (by decide) (by decide)
def F_Model_drift (a1 : Int) (μ : ZMem) : Option ZRes := zC (F_Model_isInvestor a1 μ) (zkI (fun x2 μ1 => if w32 x2 = 0 then (J_Model_drift_14 a1 1 μ1) else (J_Model_drift_14 a1 0 μ1))) zX0
set_option maxRecDepth 100000 in
theorem w_Model_drift (a1 : Int) (μ : ZMem) : AW cf_Model_drift S_Model.length S_Model S_Model 0 [(0, zR (some 0)), (1, zI a1)] [] μ 0 0 (F_Model_drift a1 μ) := by
  unfold F_Model_drift
  refine AW.aload_n (i := 0) (a := 0) (by decide +kernel) rfl (?_ : AW _ _ _ _ 1 _ _ _ _ _ _)
  refine AW.aload_n (i := 0) (a := 0) (by decide +kernel) rfl (?_ : AW _ _ _ _ 2 _ _ _ _ _ _)
  refine AW.iload_n (i := 1) (a := a1) (by decide +kernel) rfl (?_ : AW _ _ _ _ 3 _ _ _ _ _ _)
  refine AW.callVw (g := cf_Model_isInvestor) (av := [zI a1]) (b0 := 0) (ci := 9) (idx := 347) (n := 1) (st := [zR (some 0)]) (by decide +kernel) (fun l hl r hr => c_Model_isInvestor l hl a1 _ r hr) S_Model_wf rfl cal_Model_isInvestor rfl (zw4 zm_X9_347 zi_yX9_isInvestor zs_yX9_isInvestor zn_X9) rfl rfl ⟨by decide, by decide, by decide, by decide⟩ (Nat.le_of_ble_eq_true rfl) (Or.inl rfl) (fun v μ1 => AW.kI (fun x2 => (?_ : AW _ _ _ _ 6 _ _ _ _ _ _)) v)
  refine AW.if_eq (off := 7) (tgt := 13) (by decide +kernel) (by decide) (fun _ => ?_) (fun _ => ?_)
  · refine AW.iconst (n := 1) (by decide +kernel) (?_ : AW _ _ _ _ 14 _ _ _ _ _ _)
    exact j_Model_drift_14 a1 1 μ1
  · refine AW.iconst (n := 0) (by decide +kernel) (?_ : AW _ _ _ _ 10 _ _ _ _ _ _)
    refine AW.goto (off := 4) (tgt := 14) (by decide +kernel) (by decide) ?_
    exact j_Model_drift_14 a1 0 μ1
theorem c_Model_drift (l : Launch) (hl : l.stackTraces = false) (a1 : Int) (μ : ZMem) (r : ZRes) (h : F_Model_drift a1 μ = some r) : ZC l cf_Model_drift S_Model S_Model [zR (some 0), zI a1] μ r := ZC.of hl (by decide +kernel) rfl rfl zft_X9_ok (Nat.le_of_ble_eq_true rfl) h (w_Model_drift a1 μ)
/-! WeirLedgerModel.canAgain(I)Z -/
def cf_Model_canAgain : ZCf := (yX9_canAgain, cX9_canAgain, 2, some .boolean, [], 5, 0, 0, zft_X9, none)
theorem cal_Model_canAgain : zCallee cf_Model_canAgain 1 := ⟨rfl, zc_yX9_canAgain, by decide, by decide, by decide +kernel⟩
def F_Model_canAgain (a1 : Int) (μ : ZMem) : Option ZRes := zRd μ 8 300 (5 * a1) (fun x1 => zRd μ 8 300 ((5 * a1) + 1) (fun x2 => zRd μ 8 300 ((5 * a1) + 2) (fun x3 => zRd μ 8 300 ((5 * a1) + 4) (fun x4 => zC (F_Model_canBe x1 x2 x3 x4 μ) (zkI (fun x6 μ5 => if x6 = 0 ∨ x6 = 1 then some (.inr (some (zI x6)), μ5) else none)) zX0))))
set_option maxRecDepth 100000 in
theorem w_Model_canAgain (a1 : Int) (μ : ZMem) : AW cf_Model_canAgain S_Model.length S_Model S_Model 0 [(0, zR (some 0)), (1, zI a1)] [] μ 0 0 (F_Model_canAgain a1 μ) := by
  unfold F_Model_canAgain
  refine AW.aload_n (i := 0) (a := 0) (by decide +kernel) rfl (?_ : AW _ _ _ _ 1 _ _ _ _ _ _)
  refine AW.aload_n (i := 0) (a := 0) (by decide +kernel) rfl (?_ : AW _ _ _ _ 2 _ _ _ _ _ _)
  refine AW.getR (idx := 32) (ci := 9) (k := 10) (r := 0) (by decide +kernel) rfl rfl rfl (?_ : AW _ _ _ _ 5 _ _ _ _ _ _)
  refine AW.iconst (n := 5) (by decide +kernel) (?_ : AW _ _ _ _ 6 _ _ _ _ _ _)
  refine AW.iload_n (i := 1) (a := a1) (by decide +kernel) rfl (?_ : AW _ _ _ _ 7 _ _ _ _ _ _)
  refine AW.imul (by decide +kernel) (?_ : AW _ _ _ _ 8 _ _ _ _ _ _)
  refine AW.iald (r := 8) (by decide +kernel) rfl (fun x1 => (?_ : AW _ _ _ _ 9 _ _ _ _ _ _))
  refine AW.aload_n (i := 0) (a := 0) (by decide +kernel) rfl (?_ : AW _ _ _ _ 10 _ _ _ _ _ _)
  refine AW.getR (idx := 32) (ci := 9) (k := 10) (r := 0) (by decide +kernel) rfl rfl rfl (?_ : AW _ _ _ _ 13 _ _ _ _ _ _)
  refine AW.iconst (n := 5) (by decide +kernel) (?_ : AW _ _ _ _ 14 _ _ _ _ _ _)
  refine AW.iload_n (i := 1) (a := a1) (by decide +kernel) rfl (?_ : AW _ _ _ _ 15 _ _ _ _ _ _)
  refine AW.imul (by decide +kernel) (?_ : AW _ _ _ _ 16 _ _ _ _ _ _)
  refine AW.iconst (n := 1) (by decide +kernel) (?_ : AW _ _ _ _ 17 _ _ _ _ _ _)
  refine AW.iadd (by decide +kernel) (?_ : AW _ _ _ _ 18 _ _ _ _ _ _)
  refine AW.iald (r := 8) (by decide +kernel) rfl (fun x2 => (?_ : AW _ _ _ _ 19 _ _ _ _ _ _))
  refine AW.aload_n (i := 0) (a := 0) (by decide +kernel) rfl (?_ : AW _ _ _ _ 20 _ _ _ _ _ _)
  refine AW.getR (idx := 32) (ci := 9) (k := 10) (r := 0) (by decide +kernel) rfl rfl rfl (?_ : AW _ _ _ _ 23 _ _ _ _ _ _)
  refine AW.iconst (n := 5) (by decide +kernel) (?_ : AW _ _ _ _ 24 _ _ _ _ _ _)
  refine AW.iload_n (i := 1) (a := a1) (by decide +kernel) rfl (?_ : AW _ _ _ _ 25 _ _ _ _ _ _)
  refine AW.imul (by decide +kernel) (?_ : AW _ _ _ _ 26 _ _ _ _ _ _)
  refine AW.iconst (n := 2) (by decide +kernel) (?_ : AW _ _ _ _ 27 _ _ _ _ _ _)
  refine AW.iadd (by decide +kernel) (?_ : AW _ _ _ _ 28 _ _ _ _ _ _)
  refine AW.iald (r := 8) (by decide +kernel) rfl (fun x3 => (?_ : AW _ _ _ _ 29 _ _ _ _ _ _))
  refine AW.aload_n (i := 0) (a := 0) (by decide +kernel) rfl (?_ : AW _ _ _ _ 30 _ _ _ _ _ _)
  refine AW.getR (idx := 32) (ci := 9) (k := 10) (r := 0) (by decide +kernel) rfl rfl rfl (?_ : AW _ _ _ _ 33 _ _ _ _ _ _)
  refine AW.iconst (n := 5) (by decide +kernel) (?_ : AW _ _ _ _ 34 _ _ _ _ _ _)
  refine AW.iload_n (i := 1) (a := a1) (by decide +kernel) rfl (?_ : AW _ _ _ _ 35 _ _ _ _ _ _)
  refine AW.imul (by decide +kernel) (?_ : AW _ _ _ _ 36 _ _ _ _ _ _)
  refine AW.iconst (n := 4) (by decide +kernel) (?_ : AW _ _ _ _ 37 _ _ _ _ _ _)
  refine AW.iadd (by decide +kernel) (?_ : AW _ _ _ _ 38 _ _ _ _ _ _)
  refine AW.iald (r := 8) (by decide +kernel) rfl (fun x4 => (?_ : AW _ _ _ _ 39 _ _ _ _ _ _))
  refine AW.callVw (g := cf_Model_canBe) (av := [zI x1, zI x2, zI x3, zI x4]) (b0 := 0) (ci := 9) (idx := 229) (n := 4) (st := []) (by decide +kernel) (fun l hl r hr => c_Model_canBe l hl x1 x2 x3 x4 _ r hr) S_Model_wf rfl cal_Model_canBe rfl (zw4 zm_X9_229 zi_yX9_canBe zs_yX9_canBe zn_X9) rfl rfl ⟨by decide, by decide, by decide, by decide⟩ (Nat.le_of_ble_eq_true rfl) (Or.inl rfl) (fun v μ5 => AW.kI (fun x6 => (?_ : AW _ _ _ _ 42 _ _ _ _ _ _)) v)
  exact AW.retb (by decide +kernel) rfl (by decide) (by decide)
theorem c_Model_canAgain (l : Launch) (hl : l.stackTraces = false) (a1 : Int) (μ : ZMem) (r : ZRes) (h : F_Model_canAgain a1 μ = some r) : ZC l cf_Model_canAgain S_Model S_Model [zR (some 0), zI a1] μ r := ZC.of hl (by decide +kernel) rfl rfl zft_X9_ok (Nat.le_of_ble_eq_true rfl) h (w_Model_canAgain a1 μ)
/-! WeirLedgerModel.swapped(I)J -/
def cf_Model_swapped : ZCf := (yX9_swapped, cX9_swapped, 5, some .long, [], 10, 0, 0, zft_X9, none)
theorem cal_Model_swapped : zCallee cf_Model_swapped 1 := ⟨rfl, zc_yX9_swapped, by decide, by decide, by decide +kernel⟩
def J_Model_swapped_98 (R : Int → Int → ZMem → Option ZRes) (K : Int → ZMem → Option ZRes) (c1 : Int) (u2 : Int) (u3 : Int) (μ : ZMem) : Option ZRes := zLet (u3 + 1) (fun x8 => R u2 x8 μ)
set_option maxRecDepth 100000 in
theorem j_Model_swapped_98 {R : Int → Int → ZMem → Option ZRes} {K : Int → ZMem → Option ZRes} (c1 : Int) (hR : ∀ (v2 : Int) (v3 : Int) (μ : ZMem), AW cf_Model_swapped S_Model.length S_Model S_Model 42 [(0, zR (some 0)), (1, zI c1), (2, zI v2), (3, zI v3)] [] μ 0 0 (R v2 v3 μ)) (hK : ∀ (k2 : Int) (μ : ZMem), AW cf_Model_swapped S_Model.length S_Model S_Model 104 [(0, zR (some 0)), (2, zI k2)] [] μ 0 0 (K k2 μ)) (u2 : Int) (u3 : Int) (μ : ZMem) : AW cf_Model_swapped S_Model.length S_Model S_Model 98 [(0, zR (some 0)), (1, zI c1), (2, zI u2), (3, zI u3)] [] μ 0 0 (J_Model_swapped_98 R K c1 u2 u3 μ) := by
  unfold J_Model_swapped_98
  refine AW.iincL (i := 3) (n := 1) (a := u3) (L' := fun x8 => [(3, zI x8), (0, zR (some 0)), (1, zI c1), (2, zI u2)]) (by decide +kernel) rfl (by decide) (fun _ => rfl) (fun x8 => (?_ : AW _ _ _ _ 101 _ _ _ _ _ _))
  refine AW.goto (off := -59) (tgt := 42) (by decide +kernel) (by decide) ?_
  refine AW.sub (L' := [(0, zR (some 0)), (1, zI c1), (2, zI u2), (3, zI x8)]) [1, 2, 3, 0] rfl ?_
  exact hR u2 x8 μ
def J_Model_swapped_77 (R : Int → Int → ZMem → Option ZRes) (K : Int → ZMem → Option ZRes) (c1 : Int) (u3 : Int) (y0 : Int) (μ : ZMem) : Option ZRes := zC (F_Model_canAgain y0 μ) (zkI (fun x7 μ6 => if w32 x7 = 0 then (J_Model_swapped_98 R K c1 x7 u3 μ6) else (zC (F_Model_doesAgain y0 60 μ6) (zkV (fun μ9 => J_Model_swapped_98 R K c1 x7 u3 μ9)) zX0))) zX0
set_option maxRecDepth 100000 in
theorem j_Model_swapped_77 {R : Int → Int → ZMem → Option ZRes} {K : Int → ZMem → Option ZRes} (c1 : Int) (hR : ∀ (v2 : Int) (v3 : Int) (μ : ZMem), AW cf_Model_swapped S_Model.length S_Model S_Model 42 [(0, zR (some 0)), (1, zI c1), (2, zI v2), (3, zI v3)] [] μ 0 0 (R v2 v3 μ)) (hK : ∀ (k2 : Int) (μ : ZMem), AW cf_Model_swapped S_Model.length S_Model S_Model 104 [(0, zR (some 0)), (2, zI k2)] [] μ 0 0 (K k2 μ)) (u3 : Int) (y0 : Int) (μ : ZMem) : AW cf_Model_swapped S_Model.length S_Model S_Model 77 [(0, zR (some 0)), (1, zI c1), (3, zI u3)] [zI y0] μ 0 0 (J_Model_swapped_77 R K c1 u3 y0 μ) := by
  unfold J_Model_swapped_77
  refine AW.istore' (i := 4) (L' := [(4, zI y0), (0, zR (some 0)), (1, zI c1), (3, zI u3)]) (by decide +kernel) (by decide) rfl (?_ : AW _ _ _ _ 79 _ _ _ _ _ _)
  refine AW.aload_n (i := 0) (a := 0) (by decide +kernel) rfl (?_ : AW _ _ _ _ 80 _ _ _ _ _ _)
  refine AW.iload (i := 4) (a := y0) (by decide +kernel) rfl (?_ : AW _ _ _ _ 82 _ _ _ _ _ _)
  refine AW.callVw (g := cf_Model_canAgain) (av := [zI y0]) (b0 := 0) (ci := 9) (idx := 411) (n := 1) (st := []) (by decide +kernel) (fun l hl r hr => c_Model_canAgain l hl y0 _ r hr) S_Model_wf rfl cal_Model_canAgain rfl (zw4 zm_X9_411 zi_yX9_canAgain zs_yX9_canAgain zn_X9) rfl rfl ⟨by decide, by decide, by decide, by decide⟩ (Nat.le_of_ble_eq_true rfl) (Or.inl rfl) (fun v μ6 => AW.kI (fun x7 => (?_ : AW _ _ _ _ 85 _ _ _ _ _ _)) v)
  refine AW.istore_n' (i := 2) (L' := [(2, zI x7), (4, zI y0), (0, zR (some 0)), (1, zI c1), (3, zI u3)]) (by decide +kernel) (by decide) rfl (?_ : AW _ _ _ _ 86 _ _ _ _ _ _)
  refine AW.iload_n (i := 2) (a := x7) (by decide +kernel) rfl (?_ : AW _ _ _ _ 87 _ _ _ _ _ _)
  refine AW.if_eq (off := 11) (tgt := 98) (by decide +kernel) (by decide) (fun _ => ?_) (fun _ => ?_)
  · refine AW.sub (L' := [(0, zR (some 0)), (1, zI c1), (2, zI x7), (3, zI u3)]) [2, 3, 0, 4] rfl ?_
    exact j_Model_swapped_98 c1 hR hK x7 u3 μ6
  · refine AW.aload_n (i := 0) (a := 0) (by decide +kernel) rfl (?_ : AW _ _ _ _ 91 _ _ _ _ _ _)
    refine AW.iload (i := 4) (a := y0) (by decide +kernel) rfl (?_ : AW _ _ _ _ 93 _ _ _ _ _ _)
    refine AW.bipush (n := 60) (by decide +kernel) (by decide +kernel) (?_ : AW _ _ _ _ 95 _ _ _ _ _ _)
    refine AW.callVw (g := cf_Model_doesAgain) (av := [zI y0, zI 60]) (b0 := 0) (ci := 9) (idx := 119) (n := 2) (st := []) (by decide +kernel) (fun l hl r hr => c_Model_doesAgain l hl y0 60 _ r hr) S_Model_wf rfl cal_Model_doesAgain rfl (zw4 zm_X9_119 zi_yX9_doesAgain zs_yX9_doesAgain zn_X9) rfl rfl ⟨by decide, by decide, by decide, by decide⟩ (Nat.le_of_ble_eq_true rfl) (Or.inl rfl) (fun v μ9 => AW.kV (?_ : AW _ _ _ _ 98 _ _ _ _ _ _) v)
    refine AW.sub (L' := [(0, zR (some 0)), (1, zI c1), (2, zI x7), (3, zI u3)]) [2, 3, 0, 4] rfl ?_
    exact j_Model_swapped_98 c1 hR hK x7 u3 μ9
def L_Model_swapped_42 (c1 : Int) (K : Int → ZMem → Option ZRes) : Nat → Int → Int → ZMem → Option ZRes
  | 0, _, _, _ => none
  | n + 1, v2, v3, μ => if w32 (μ 0 11) ≤ w32 v3 then (K v2 μ) else (if w32 v2 = 0 then (K v2 μ) else (if w32 v3 = w32 c1 then (J_Model_swapped_77 (fun v2 v3 μ => L_Model_swapped_42 c1 K n v2 v3 μ) K c1 v3 (c1 + 1) μ) else (if w32 v3 = w32 (c1 + 1) then (J_Model_swapped_77 (fun v2 v3 μ => L_Model_swapped_42 c1 K n v2 v3 μ) K c1 v3 c1 μ) else (J_Model_swapped_77 (fun v2 v3 μ => L_Model_swapped_42 c1 K n v2 v3 μ) K c1 v3 v3 μ))))
set_option maxRecDepth 100000 in
theorem l_Model_swapped_42 {c1 : Int} {K : Int → ZMem → Option ZRes} (hK : ∀ (k2 : Int) (μ : ZMem), AW cf_Model_swapped S_Model.length S_Model S_Model 104 [(0, zR (some 0)), (2, zI k2)] [] μ 0 0 (K k2 μ)) : ∀ (n : Nat) (v2 : Int) (v3 : Int) (μ : ZMem), AW cf_Model_swapped S_Model.length S_Model S_Model 42 [(0, zR (some 0)), (1, zI c1), (2, zI v2), (3, zI v3)] [] μ 0 0 (L_Model_swapped_42 c1 K n v2 v3 μ) := by
  intro n
  induction n with
  | zero => intro v2 v3 μ; exact AW.noth
  | succ n ih =>
    intro v2 v3 μ
    rw [L_Model_swapped_42]
    refine AW.iload_n (i := 3) (a := v3) (by decide +kernel) rfl (?_ : AW _ _ _ _ 43 _ _ _ _ _ _)
    refine AW.aload_n (i := 0) (a := 0) (by decide +kernel) rfl (?_ : AW _ _ _ _ 44 _ _ _ _ _ _)
    refine AW.getI (idx := 116) (ci := 9) (k := 11) (r := 0) (by decide +kernel) rfl rfl rfl (?_ : AW _ _ _ _ 47 _ _ _ _ _ _)
    refine AW.icmp_ge (off := 57) (tgt := 104) (by decide +kernel) (by decide) (fun _ => ?_) (fun _ => ?_)
    · refine AW.sub (L' := [(0, zR (some 0)), (2, zI v2)]) [0, 2] rfl ?_
      exact hK v2 μ
    · refine AW.iload_n (i := 2) (a := v2) (by decide +kernel) rfl (?_ : AW _ _ _ _ 51 _ _ _ _ _ _)
      refine AW.if_eq (off := 53) (tgt := 104) (by decide +kernel) (by decide) (fun _ => ?_) (fun _ => ?_)
      · refine AW.sub (L' := [(0, zR (some 0)), (2, zI v2)]) [0, 2] rfl ?_
        exact hK v2 μ
      · refine AW.iload_n (i := 3) (a := v3) (by decide +kernel) rfl (?_ : AW _ _ _ _ 55 _ _ _ _ _ _)
        refine AW.iload_n (i := 1) (a := c1) (by decide +kernel) rfl (?_ : AW _ _ _ _ 56 _ _ _ _ _ _)
        refine AW.icmp_ne (off := 9) (tgt := 65) (by decide +kernel) (by decide) (fun _ => ?_) (fun _ => ?_)
        · refine AW.iload_n (i := 1) (a := c1) (by decide +kernel) rfl (?_ : AW _ _ _ _ 60 _ _ _ _ _ _)
          refine AW.iconst (n := 1) (by decide +kernel) (?_ : AW _ _ _ _ 61 _ _ _ _ _ _)
          refine AW.iadd (by decide +kernel) (?_ : AW _ _ _ _ 62 _ _ _ _ _ _)
          refine AW.goto (off := 15) (tgt := 77) (by decide +kernel) (by decide) ?_
          refine AW.sub (L' := [(0, zR (some 0)), (1, zI c1), (3, zI v3)]) [0, 1, 3] rfl ?_
          exact j_Model_swapped_77 c1 ih hK v3 (c1 + 1) μ
        · refine AW.iload_n (i := 3) (a := v3) (by decide +kernel) rfl (?_ : AW _ _ _ _ 66 _ _ _ _ _ _)
          refine AW.iload_n (i := 1) (a := c1) (by decide +kernel) rfl (?_ : AW _ _ _ _ 67 _ _ _ _ _ _)
          refine AW.iconst (n := 1) (by decide +kernel) (?_ : AW _ _ _ _ 68 _ _ _ _ _ _)
          refine AW.iadd (by decide +kernel) (?_ : AW _ _ _ _ 69 _ _ _ _ _ _)
          refine AW.icmp_ne (off := 7) (tgt := 76) (by decide +kernel) (by decide) (fun _ => ?_) (fun _ => ?_)
          · refine AW.iload_n (i := 1) (a := c1) (by decide +kernel) rfl (?_ : AW _ _ _ _ 73 _ _ _ _ _ _)
            refine AW.goto (off := 4) (tgt := 77) (by decide +kernel) (by decide) ?_
            refine AW.sub (L' := [(0, zR (some 0)), (1, zI c1), (3, zI v3)]) [0, 1, 3] rfl ?_
            exact j_Model_swapped_77 c1 ih hK v3 c1 μ
          · refine AW.iload_n (i := 3) (a := v3) (by decide +kernel) rfl (?_ : AW _ _ _ _ 77 _ _ _ _ _ _)
            refine AW.sub (L' := [(0, zR (some 0)), (1, zI c1), (3, zI v3)]) [0, 1, 3] rfl ?_
            exact j_Model_swapped_77 c1 ih hK v3 v3 μ
def J_Model_swapped_118 (y0 : Int) (μ : ZMem) : Option ZRes := zC (F_Model_worksOut  μ) (zkV (fun μ13 => some (.inr (some (zJ y0)), μ13))) zX0
set_option maxRecDepth 100000 in
theorem j_Model_swapped_118 (y0 : Int) (μ : ZMem) : AW cf_Model_swapped S_Model.length S_Model S_Model 118 [(0, zR (some 0))] [zJ y0] μ 0 0 (J_Model_swapped_118 y0 μ) := by
  unfold J_Model_swapped_118
  refine AW.lstore_n' (i := 3) (L' := [(3, zJ y0), (0, zR (some 0))]) (by decide +kernel) (by decide) rfl (?_ : AW _ _ _ _ 119 _ _ _ _ _ _)
  refine AW.aload_n (i := 0) (a := 0) (by decide +kernel) rfl (?_ : AW _ _ _ _ 120 _ _ _ _ _ _)
  refine AW.callVw (g := cf_Model_worksOut) (av := []) (b0 := 0) (ci := 9) (idx := 342) (n := 0) (st := []) (by decide +kernel) (fun l hl r hr => c_Model_worksOut l hl  _ r hr) S_Model_wf rfl cal_Model_worksOut rfl (zw4 zm_X9_342 zi_yX9_worksOut zs_yX9_worksOut zn_X9) rfl rfl ⟨by decide, by decide, by decide, by decide⟩ (Nat.le_of_ble_eq_true rfl) (Or.inl rfl) (fun v μ13 => AW.kV (?_ : AW _ _ _ _ 123 _ _ _ _ _ _) v)
  refine AW.lload_n (i := 3) (a := y0) (by decide +kernel) rfl (?_ : AW _ _ _ _ 124 _ _ _ _ _ _)
  exact AW.retl (by decide +kernel) rfl (by decide) (by decide)
def J_Model_swapped_22 (a1 : Int) (y0 : Int) (μ : ZMem) : Option ZRes := zLet (zUp μ 0 0 y0) (fun μ3 => if w32 (μ3 0 0) ≤ 0 then (zC (F_Model_anew  μ3) (zkV (fun μ4 => L_Model_swapped_42 a1 (fun k12 μ11 => if w32 k12 = 0 then (J_Model_swapped_118 (-1) μ11) else (zC (F_Model_keeps  μ11) (zkJ (fun x16 μ15 => J_Model_swapped_118 x16 μ15)) zX0)) zN 1 0 μ4)) zX0) else (some (.inr (some (zJ 0)), μ3)))
set_option maxRecDepth 100000 in
theorem j_Model_swapped_22 (a1 : Int) (y0 : Int) (μ : ZMem) : AW cf_Model_swapped S_Model.length S_Model S_Model 22 [(0, zR (some 0)), (1, zI a1)] [zI y0, zR (some 0)] μ 0 0 (J_Model_swapped_22 a1 y0 μ) := by
  unfold J_Model_swapped_22
  refine AW.putiL (idx := 93) (ci := 9) (k := 0) (r := 0) (by decide +kernel) rfl rfl rfl (fun μ3 => (?_ : AW _ _ _ _ 25 _ _ _ _ _ _))
  refine AW.aload_n (i := 0) (a := 0) (by decide +kernel) rfl (?_ : AW _ _ _ _ 26 _ _ _ _ _ _)
  refine AW.getI (idx := 93) (ci := 9) (k := 0) (r := 0) (by decide +kernel) rfl rfl rfl (?_ : AW _ _ _ _ 29 _ _ _ _ _ _)
  refine AW.if_le (off := 5) (tgt := 34) (by decide +kernel) (by decide) (fun _ => ?_) (fun _ => ?_)
  · refine AW.aload_n (i := 0) (a := 0) (by decide +kernel) rfl (?_ : AW _ _ _ _ 35 _ _ _ _ _ _)
    refine AW.callVw (g := cf_Model_anew) (av := []) (b0 := 0) (ci := 9) (idx := 90) (n := 0) (st := []) (by decide +kernel) (fun l hl r hr => c_Model_anew l hl  _ r hr) S_Model_wf rfl cal_Model_anew rfl (zw4 zm_X9_90 zi_yX9_anew zs_yX9_anew zn_X9) rfl rfl ⟨by decide, by decide, by decide, by decide⟩ (Nat.le_of_ble_eq_true rfl) (Or.inl rfl) (fun v μ4 => AW.kV (?_ : AW _ _ _ _ 38 _ _ _ _ _ _) v)
    refine AW.iconst (n := 1) (by decide +kernel) (?_ : AW _ _ _ _ 39 _ _ _ _ _ _)
    refine AW.istore_n' (i := 2) (L' := [(2, zI 1), (0, zR (some 0)), (1, zI a1)]) (by decide +kernel) (by decide) rfl (?_ : AW _ _ _ _ 40 _ _ _ _ _ _)
    refine AW.iconst (n := 0) (by decide +kernel) (?_ : AW _ _ _ _ 41 _ _ _ _ _ _)
    refine AW.istore_n' (i := 3) (L' := [(3, zI 0), (2, zI 1), (0, zR (some 0)), (1, zI a1)]) (by decide +kernel) (by decide) rfl (?_ : AW _ _ _ _ 42 _ _ _ _ _ _)
    refine AW.sub (L' := [(0, zR (some 0)), (1, zI a1), (2, zI 1), (3, zI 0)]) [2, 3, 1, 0] rfl ?_
    refine l_Model_swapped_42 (fun k12 μ11 => ?_) zN _ _ _
    refine AW.iload_n (i := 2) (a := k12) (by decide +kernel) rfl (?_ : AW _ _ _ _ 105 _ _ _ _ _ _)
    refine AW.if_eq (off := 10) (tgt := 115) (by decide +kernel) (by decide) (fun _ => ?_) (fun _ => ?_)
    · refine AW.ldc2 (idx := 127) (v := -1) (by decide +kernel) zk_X9_127 (?_ : AW _ _ _ _ 118 _ _ _ _ _ _)
      refine AW.sub (L' := [(0, zR (some 0))]) [0] rfl ?_
      exact j_Model_swapped_118 (-1) μ11
    · refine AW.aload_n (i := 0) (a := 0) (by decide +kernel) rfl (?_ : AW _ _ _ _ 109 _ _ _ _ _ _)
      refine AW.callVw (g := cf_Model_keeps) (av := []) (b0 := 0) (ci := 9) (idx := 405) (n := 0) (st := []) (by decide +kernel) (fun l hl r hr => c_Model_keeps l hl  _ r hr) S_Model_wf rfl cal_Model_keeps rfl (zw4 zm_X9_405 zi_yX9_keeps zs_yX9_keeps zn_X9) rfl rfl ⟨by decide, by decide, by decide, by decide⟩ (Nat.le_of_ble_eq_true rfl) (Or.inl rfl) (fun v μ15 => AW.kJ (fun x16 => (?_ : AW _ _ _ _ 112 _ _ _ _ _ _)) v)
      refine AW.goto (off := 6) (tgt := 118) (by decide +kernel) (by decide) ?_
      refine AW.sub (L' := [(0, zR (some 0))]) [0] rfl ?_
      exact j_Model_swapped_118 x16 μ15
  · refine AW.lconst0 (by decide +kernel) (?_ : AW _ _ _ _ 33 _ _ _ _ _ _)
    exact AW.retl (by decide +kernel) rfl (by decide) (by decide)
def F_Model_swapped (a1 : Int) (μ : ZMem) : Option ZRes := zC (F_Model_isIn (w32 a1) 0 (w32 ((μ 0 11) - 2)) μ) (zkI (fun x2 _ => if w32 x2 = 0 then (J_Model_swapped_22 a1 1 μ) else (J_Model_swapped_22 a1 0 μ))) zX0
set_option maxRecDepth 100000 in
theorem w_Model_swapped (a1 : Int) (μ : ZMem) : AW cf_Model_swapped S_Model.length S_Model S_Model 0 [(0, zR (some 0)), (1, zI a1)] [] μ 0 0 (F_Model_swapped a1 μ) := by
  unfold F_Model_swapped
  refine AW.aload_n (i := 0) (a := 0) (by decide +kernel) rfl (?_ : AW _ _ _ _ 1 _ _ _ _ _ _)
  refine AW.iload_n (i := 1) (a := a1) (by decide +kernel) rfl (?_ : AW _ _ _ _ 2 _ _ _ _ _ _)
  refine AW.i2l (by decide +kernel) (?_ : AW _ _ _ _ 3 _ _ _ _ _ _)
  refine AW.lconst0 (by decide +kernel) (?_ : AW _ _ _ _ 4 _ _ _ _ _ _)
  refine AW.aload_n (i := 0) (a := 0) (by decide +kernel) rfl (?_ : AW _ _ _ _ 5 _ _ _ _ _ _)
  refine AW.getI (idx := 116) (ci := 9) (k := 11) (r := 0) (by decide +kernel) rfl rfl rfl (?_ : AW _ _ _ _ 8 _ _ _ _ _ _)
  refine AW.iconst (n := 2) (by decide +kernel) (?_ : AW _ _ _ _ 9 _ _ _ _ _ _)
  refine AW.isub (by decide +kernel) (?_ : AW _ _ _ _ 10 _ _ _ _ _ _)
  refine AW.i2l (by decide +kernel) (?_ : AW _ _ _ _ 11 _ _ _ _ _ _)
  refine AW.callP (g := cf_Model_isIn) (av := [zJ (w32 a1), zJ 0, zJ (w32 ((μ 0 11) - 2))]) (idx := 99) (n := 3) (st := [zR (some 0)]) (by decide +kernel) (fun l hl r hr => c_Model_isIn l hl (w32 a1) 0 (w32 ((μ 0 11) - 2)) _ r hr) rfl cal_Model_isIn rfl (zw3 zm_X9_99 zt_yX9_isIn zn_X9) ⟨by decide, by decide, by decide, by decide⟩ (Nat.le_of_ble_eq_true rfl) (fun v _ => AW.kI (fun x2 => (?_ : AW _ _ _ _ 14 _ _ _ _ _ _)) v)
  refine AW.if_eq (off := 7) (tgt := 21) (by decide +kernel) (by decide) (fun _ => ?_) (fun _ => ?_)
  · refine AW.iconst (n := 1) (by decide +kernel) (?_ : AW _ _ _ _ 22 _ _ _ _ _ _)
    exact j_Model_swapped_22 a1 1 μ
  · refine AW.iconst (n := 0) (by decide +kernel) (?_ : AW _ _ _ _ 18 _ _ _ _ _ _)
    refine AW.goto (off := 4) (tgt := 22) (by decide +kernel) (by decide) ?_
    exact j_Model_swapped_22 a1 0 μ
theorem c_Model_swapped (l : Launch) (hl : l.stackTraces = false) (a1 : Int) (μ : ZMem) (r : ZRes) (h : F_Model_swapped a1 μ = some r) : ZC l cf_Model_swapped S_Model S_Model [zR (some 0), zI a1] μ r := ZC.of hl (by decide +kernel) rfl rfl zft_X9_ok (Nat.le_of_ble_eq_true rfl) h (w_Model_swapped a1 μ)
/-! WeirLedgerModel.keptWithout(I)J -/
def cf_Model_keptWithout : ZCf := (yX9_keptWithout, cX9_keptWithout, 4, some .long, [], 10, 0, 0, zft_X9, none)
theorem cal_Model_keptWithout : zCallee cf_Model_keptWithout 1 := ⟨rfl, zc_yX9_keptWithout, by decide, by decide, by decide +kernel⟩
def J_Model_keptWithout_34 (R : Int → ZMem → Option ZRes) (K : ZMem → Option ZRes) (c1 : Int) (u2 : Int) (μ : ZMem) : Option ZRes := zLet (u2 + 1) (fun x3 => R x3 μ)
set_option maxRecDepth 100000 in
theorem j_Model_keptWithout_34 {R : Int → ZMem → Option ZRes} {K : ZMem → Option ZRes} (c1 : Int) (hR : ∀ (v2 : Int) (μ : ZMem), AW cf_Model_keptWithout S_Model.length S_Model S_Model 6 [(0, zR (some 0)), (1, zI c1), (2, zI v2)] [] μ 0 0 (R v2 μ)) (hK : ∀ (μ : ZMem), AW cf_Model_keptWithout S_Model.length S_Model S_Model 40 [(0, zR (some 0))] [] μ 0 0 (K μ)) (u2 : Int) (μ : ZMem) : AW cf_Model_keptWithout S_Model.length S_Model S_Model 34 [(0, zR (some 0)), (1, zI c1), (2, zI u2)] [] μ 0 0 (J_Model_keptWithout_34 R K c1 u2 μ) := by
  unfold J_Model_keptWithout_34
  refine AW.iincL (i := 2) (n := 1) (a := u2) (L' := fun x3 => [(2, zI x3), (0, zR (some 0)), (1, zI c1)]) (by decide +kernel) rfl (by decide) (fun _ => rfl) (fun x3 => (?_ : AW _ _ _ _ 37 _ _ _ _ _ _))
  refine AW.goto (off := -31) (tgt := 6) (by decide +kernel) (by decide) ?_
  refine AW.sub (L' := [(0, zR (some 0)), (1, zI c1), (2, zI x3)]) [1, 2, 0] rfl ?_
  exact hR x3 μ
def L_Model_keptWithout_6 (c1 : Int) (K : ZMem → Option ZRes) : Nat → Int → ZMem → Option ZRes
  | 0, _, _ => none
  | n + 1, v2, μ => if w32 (μ 0 11) ≤ w32 v2 then (K  μ) else (if w32 v2 = w32 c1 then (J_Model_keptWithout_34 (fun v2 μ => L_Model_keptWithout_6 c1 K n v2 μ) K c1 v2 μ) else (zC (F_Model_canAgain v2 μ) (zkI (fun x5 μ4 => if w32 x5 = 0 then (J_Model_keptWithout_34 (fun v2 μ => L_Model_keptWithout_6 c1 K n v2 μ) K c1 v2 μ4) else (zC (F_Model_doesAgain v2 60 μ4) (zkV (fun μ6 => J_Model_keptWithout_34 (fun v2 μ => L_Model_keptWithout_6 c1 K n v2 μ) K c1 v2 μ6)) zX0))) zX0))
set_option maxRecDepth 100000 in
theorem l_Model_keptWithout_6 {c1 : Int} {K : ZMem → Option ZRes} (hK : ∀ (μ : ZMem), AW cf_Model_keptWithout S_Model.length S_Model S_Model 40 [(0, zR (some 0))] [] μ 0 0 (K μ)) : ∀ (n : Nat) (v2 : Int) (μ : ZMem), AW cf_Model_keptWithout S_Model.length S_Model S_Model 6 [(0, zR (some 0)), (1, zI c1), (2, zI v2)] [] μ 0 0 (L_Model_keptWithout_6 c1 K n v2 μ) := by
  intro n
  induction n with
  | zero => intro v2 μ; exact AW.noth
  | succ n ih =>
    intro v2 μ
    rw [L_Model_keptWithout_6]
    refine AW.iload_n (i := 2) (a := v2) (by decide +kernel) rfl (?_ : AW _ _ _ _ 7 _ _ _ _ _ _)
    refine AW.aload_n (i := 0) (a := 0) (by decide +kernel) rfl (?_ : AW _ _ _ _ 8 _ _ _ _ _ _)
    refine AW.getI (idx := 116) (ci := 9) (k := 11) (r := 0) (by decide +kernel) rfl rfl rfl (?_ : AW _ _ _ _ 11 _ _ _ _ _ _)
    refine AW.icmp_ge (off := 29) (tgt := 40) (by decide +kernel) (by decide) (fun _ => ?_) (fun _ => ?_)
    · refine AW.sub (L' := [(0, zR (some 0))]) [0] rfl ?_
      exact hK  μ
    · refine AW.iload_n (i := 2) (a := v2) (by decide +kernel) rfl (?_ : AW _ _ _ _ 15 _ _ _ _ _ _)
      refine AW.iload_n (i := 1) (a := c1) (by decide +kernel) rfl (?_ : AW _ _ _ _ 16 _ _ _ _ _ _)
      refine AW.icmp_eq (off := 18) (tgt := 34) (by decide +kernel) (by decide) (fun _ => ?_) (fun _ => ?_)
      · exact j_Model_keptWithout_34 c1 ih hK v2 μ
      · refine AW.aload_n (i := 0) (a := 0) (by decide +kernel) rfl (?_ : AW _ _ _ _ 20 _ _ _ _ _ _)
        refine AW.iload_n (i := 2) (a := v2) (by decide +kernel) rfl (?_ : AW _ _ _ _ 21 _ _ _ _ _ _)
        refine AW.callVw (g := cf_Model_canAgain) (av := [zI v2]) (b0 := 0) (ci := 9) (idx := 411) (n := 1) (st := []) (by decide +kernel) (fun l hl r hr => c_Model_canAgain l hl v2 _ r hr) S_Model_wf rfl cal_Model_canAgain rfl (zw4 zm_X9_411 zi_yX9_canAgain zs_yX9_canAgain zn_X9) rfl rfl ⟨by decide, by decide, by decide, by decide⟩ (Nat.le_of_ble_eq_true rfl) (Or.inl rfl) (fun v μ4 => AW.kI (fun x5 => (?_ : AW _ _ _ _ 24 _ _ _ _ _ _)) v)
        refine AW.if_eq (off := 10) (tgt := 34) (by decide +kernel) (by decide) (fun _ => ?_) (fun _ => ?_)
        · exact j_Model_keptWithout_34 c1 ih hK v2 μ4
        · refine AW.aload_n (i := 0) (a := 0) (by decide +kernel) rfl (?_ : AW _ _ _ _ 28 _ _ _ _ _ _)
          refine AW.iload_n (i := 2) (a := v2) (by decide +kernel) rfl (?_ : AW _ _ _ _ 29 _ _ _ _ _ _)
          refine AW.bipush (n := 60) (by decide +kernel) (by decide +kernel) (?_ : AW _ _ _ _ 31 _ _ _ _ _ _)
          refine AW.callVw (g := cf_Model_doesAgain) (av := [zI v2, zI 60]) (b0 := 0) (ci := 9) (idx := 119) (n := 2) (st := []) (by decide +kernel) (fun l hl r hr => c_Model_doesAgain l hl v2 60 _ r hr) S_Model_wf rfl cal_Model_doesAgain rfl (zw4 zm_X9_119 zi_yX9_doesAgain zs_yX9_doesAgain zn_X9) rfl rfl ⟨by decide, by decide, by decide, by decide⟩ (Nat.le_of_ble_eq_true rfl) (Or.inl rfl) (fun v μ6 => AW.kV (?_ : AW _ _ _ _ 34 _ _ _ _ _ _) v)
          exact j_Model_keptWithout_34 c1 ih hK v2 μ6
def F_Model_keptWithout (a1 : Int) (μ : ZMem) : Option ZRes := zC (F_Model_anew  μ) (zkV (fun μ1 => L_Model_keptWithout_6 a1 (fun μ8 => zC (F_Model_keeps  μ8) (zkJ (fun x10 μ9 => zC (F_Model_worksOut  μ9) (zkV (fun μ11 => some (.inr (some (zJ x10)), μ11))) zX0)) zX0) zN 0 μ1)) zX0
set_option maxRecDepth 100000 in
theorem w_Model_keptWithout (a1 : Int) (μ : ZMem) : AW cf_Model_keptWithout S_Model.length S_Model S_Model 0 [(0, zR (some 0)), (1, zI a1)] [] μ 0 0 (F_Model_keptWithout a1 μ) := by
  unfold F_Model_keptWithout
  refine AW.aload_n (i := 0) (a := 0) (by decide +kernel) rfl (?_ : AW _ _ _ _ 1 _ _ _ _ _ _)
  refine AW.callVw (g := cf_Model_anew) (av := []) (b0 := 0) (ci := 9) (idx := 90) (n := 0) (st := []) (by decide +kernel) (fun l hl r hr => c_Model_anew l hl  _ r hr) S_Model_wf rfl cal_Model_anew rfl (zw4 zm_X9_90 zi_yX9_anew zs_yX9_anew zn_X9) rfl rfl ⟨by decide, by decide, by decide, by decide⟩ (Nat.le_of_ble_eq_true rfl) (Or.inl rfl) (fun v μ1 => AW.kV (?_ : AW _ _ _ _ 4 _ _ _ _ _ _) v)
  refine AW.iconst (n := 0) (by decide +kernel) (?_ : AW _ _ _ _ 5 _ _ _ _ _ _)
  refine AW.istore_n' (i := 2) (L' := [(2, zI 0), (0, zR (some 0)), (1, zI a1)]) (by decide +kernel) (by decide) rfl (?_ : AW _ _ _ _ 6 _ _ _ _ _ _)
  refine AW.sub (L' := [(0, zR (some 0)), (1, zI a1), (2, zI 0)]) [1, 2, 0] rfl ?_
  refine l_Model_keptWithout_6 (fun μ8 => ?_) zN _ _
  refine AW.aload_n (i := 0) (a := 0) (by decide +kernel) rfl (?_ : AW _ _ _ _ 41 _ _ _ _ _ _)
  refine AW.callVw (g := cf_Model_keeps) (av := []) (b0 := 0) (ci := 9) (idx := 405) (n := 0) (st := []) (by decide +kernel) (fun l hl r hr => c_Model_keeps l hl  _ r hr) S_Model_wf rfl cal_Model_keeps rfl (zw4 zm_X9_405 zi_yX9_keeps zs_yX9_keeps zn_X9) rfl rfl ⟨by decide, by decide, by decide, by decide⟩ (Nat.le_of_ble_eq_true rfl) (Or.inl rfl) (fun v μ9 => AW.kJ (fun x10 => (?_ : AW _ _ _ _ 44 _ _ _ _ _ _)) v)
  refine AW.lstore_n' (i := 2) (L' := [(2, zJ x10), (0, zR (some 0))]) (by decide +kernel) (by decide) rfl (?_ : AW _ _ _ _ 45 _ _ _ _ _ _)
  refine AW.aload_n (i := 0) (a := 0) (by decide +kernel) rfl (?_ : AW _ _ _ _ 46 _ _ _ _ _ _)
  refine AW.callVw (g := cf_Model_worksOut) (av := []) (b0 := 0) (ci := 9) (idx := 342) (n := 0) (st := []) (by decide +kernel) (fun l hl r hr => c_Model_worksOut l hl  _ r hr) S_Model_wf rfl cal_Model_worksOut rfl (zw4 zm_X9_342 zi_yX9_worksOut zs_yX9_worksOut zn_X9) rfl rfl ⟨by decide, by decide, by decide, by decide⟩ (Nat.le_of_ble_eq_true rfl) (Or.inl rfl) (fun v μ11 => AW.kV (?_ : AW _ _ _ _ 49 _ _ _ _ _ _) v)
  refine AW.lload_n (i := 2) (a := x10) (by decide +kernel) rfl (?_ : AW _ _ _ _ 50 _ _ _ _ _ _)
  exact AW.retl (by decide +kernel) rfl (by decide) (by decide)
theorem c_Model_keptWithout (l : Launch) (hl : l.stackTraces = false) (a1 : Int) (μ : ZMem) (r : ZRes) (h : F_Model_keptWithout a1 μ = some r) : ZC l cf_Model_keptWithout S_Model S_Model [zR (some 0), zI a1] μ r := ZC.of hl (by decide +kernel) rfl rfl zft_X9_ok (Nat.le_of_ble_eq_true rfl) h (w_Model_keptWithout a1 μ)
/-! WeirLedgerModel.without(I)J -/
def cf_Model_without : ZCf := (yX9_without, cX9_without, 2, some .long, [], 11, 0, 0, zft_X9, none)
theorem cal_Model_without : zCallee cf_Model_without 1 := ⟨rfl, zc_yX9_without, by decide, by decide, by decide +kernel⟩
def J_Model_without_22 (a1 : Int) (y0 : Int) (μ : ZMem) : Option ZRes := zLet (zUp μ 0 0 y0) (fun μ3 => if w32 (μ3 0 0) ≤ 0 then (zC (F_Model_keptWithout a1 μ3) (zkJ (fun x5 μ4 => some (.inr (some (zJ x5)), μ4))) zX0) else (some (.inr (some (zJ 0)), μ3)))
set_option maxRecDepth 100000 in
theorem j_Model_without_22 (a1 : Int) (y0 : Int) (μ : ZMem) : AW cf_Model_without S_Model.length S_Model S_Model 22 [(0, zR (some 0)), (1, zI a1)] [zI y0, zR (some 0)] μ 0 0 (J_Model_without_22 a1 y0 μ) := by
  unfold J_Model_without_22
  refine AW.putiL (idx := 93) (ci := 9) (k := 0) (r := 0) (by decide +kernel) rfl rfl rfl (fun μ3 => (?_ : AW _ _ _ _ 25 _ _ _ _ _ _))
  refine AW.aload_n (i := 0) (a := 0) (by decide +kernel) rfl (?_ : AW _ _ _ _ 26 _ _ _ _ _ _)
  refine AW.getI (idx := 93) (ci := 9) (k := 0) (r := 0) (by decide +kernel) rfl rfl rfl (?_ : AW _ _ _ _ 29 _ _ _ _ _ _)
  refine AW.if_le (off := 7) (tgt := 36) (by decide +kernel) (by decide) (fun _ => ?_) (fun _ => ?_)
  · refine AW.aload_n (i := 0) (a := 0) (by decide +kernel) rfl (?_ : AW _ _ _ _ 37 _ _ _ _ _ _)
    refine AW.iload_n (i := 1) (a := a1) (by decide +kernel) rfl (?_ : AW _ _ _ _ 38 _ _ _ _ _ _)
    refine AW.callVw (g := cf_Model_keptWithout) (av := [zI a1]) (b0 := 0) (ci := 9) (idx := 414) (n := 1) (st := []) (by decide +kernel) (fun l hl r hr => c_Model_keptWithout l hl a1 _ r hr) S_Model_wf rfl cal_Model_keptWithout rfl (zw4 zm_X9_414 zi_yX9_keptWithout zs_yX9_keptWithout zn_X9) rfl rfl ⟨by decide, by decide, by decide, by decide⟩ (Nat.le_of_ble_eq_true rfl) (Or.inl rfl) (fun v μ4 => AW.kJ (fun x5 => (?_ : AW _ _ _ _ 41 _ _ _ _ _ _)) v)
    exact AW.retl (by decide +kernel) rfl (by decide) (by decide)
  · refine AW.lconst0 (by decide +kernel) (?_ : AW _ _ _ _ 33 _ _ _ _ _ _)
    refine AW.goto (off := 8) (tgt := 41) (by decide +kernel) (by decide) ?_
    exact AW.retl (by decide +kernel) rfl (by decide) (by decide)
def F_Model_without (a1 : Int) (μ : ZMem) : Option ZRes := zC (F_Model_isIn (w32 a1) 0 (w32 ((μ 0 11) - 1)) μ) (zkI (fun x2 _ => if w32 x2 = 0 then (J_Model_without_22 a1 1 μ) else (J_Model_without_22 a1 0 μ))) zX0
set_option maxRecDepth 100000 in
theorem w_Model_without (a1 : Int) (μ : ZMem) : AW cf_Model_without S_Model.length S_Model S_Model 0 [(0, zR (some 0)), (1, zI a1)] [] μ 0 0 (F_Model_without a1 μ) := by
  unfold F_Model_without
  refine AW.aload_n (i := 0) (a := 0) (by decide +kernel) rfl (?_ : AW _ _ _ _ 1 _ _ _ _ _ _)
  refine AW.iload_n (i := 1) (a := a1) (by decide +kernel) rfl (?_ : AW _ _ _ _ 2 _ _ _ _ _ _)
  refine AW.i2l (by decide +kernel) (?_ : AW _ _ _ _ 3 _ _ _ _ _ _)
  refine AW.lconst0 (by decide +kernel) (?_ : AW _ _ _ _ 4 _ _ _ _ _ _)
  refine AW.aload_n (i := 0) (a := 0) (by decide +kernel) rfl (?_ : AW _ _ _ _ 5 _ _ _ _ _ _)
  refine AW.getI (idx := 116) (ci := 9) (k := 11) (r := 0) (by decide +kernel) rfl rfl rfl (?_ : AW _ _ _ _ 8 _ _ _ _ _ _)
  refine AW.iconst (n := 1) (by decide +kernel) (?_ : AW _ _ _ _ 9 _ _ _ _ _ _)
  refine AW.isub (by decide +kernel) (?_ : AW _ _ _ _ 10 _ _ _ _ _ _)
  refine AW.i2l (by decide +kernel) (?_ : AW _ _ _ _ 11 _ _ _ _ _ _)
  refine AW.callP (g := cf_Model_isIn) (av := [zJ (w32 a1), zJ 0, zJ (w32 ((μ 0 11) - 1))]) (idx := 99) (n := 3) (st := [zR (some 0)]) (by decide +kernel) (fun l hl r hr => c_Model_isIn l hl (w32 a1) 0 (w32 ((μ 0 11) - 1)) _ r hr) rfl cal_Model_isIn rfl (zw3 zm_X9_99 zt_yX9_isIn zn_X9) ⟨by decide, by decide, by decide, by decide⟩ (Nat.le_of_ble_eq_true rfl) (fun v _ => AW.kI (fun x2 => (?_ : AW _ _ _ _ 14 _ _ _ _ _ _)) v)
  refine AW.if_eq (off := 7) (tgt := 21) (by decide +kernel) (by decide) (fun _ => ?_) (fun _ => ?_)
  · refine AW.iconst (n := 1) (by decide +kernel) (?_ : AW _ _ _ _ 22 _ _ _ _ _ _)
    exact j_Model_without_22 a1 1 μ
  · refine AW.iconst (n := 0) (by decide +kernel) (?_ : AW _ _ _ _ 18 _ _ _ _ _ _)
    refine AW.goto (off := 4) (tgt := 22) (by decide +kernel) (by decide) ?_
    exact j_Model_without_22 a1 0 μ
theorem c_Model_without (l : Launch) (hl : l.stackTraces = false) (a1 : Int) (μ : ZMem) (r : ZRes) (h : F_Model_without a1 μ = some r) : ZC l cf_Model_without S_Model S_Model [zR (some 0), zI a1] μ r := ZC.of hl (by decide +kernel) rfl rfl zft_X9_ok (Nat.le_of_ble_eq_true rfl) h (w_Model_without a1 μ)
/-! WeirLedgerModel.worksOutTo(I)V -/
def cf_Model_worksOutTo : ZCf := (yX9_worksOutTo, cX9_worksOutTo, 3, none, [], 9, 0, 0, zft_X9, none)
theorem cal_Model_worksOutTo : zCallee cf_Model_worksOutTo 1 := ⟨rfl, zc_yX9_worksOutTo, by decide, by decide, by decide +kernel⟩
def L_Model_worksOutTo_6 (c1 : Int) (K : ZMem → Option ZRes) : Nat → Int → ZMem → Option ZRes
  | 0, _, _ => none
  | n + 1, v2, μ => if w32 c1 ≤ w32 v2 then (K  μ) else (zC (F_Model_doesAgain v2 60 μ) (zkV (fun μ3 => zLet (v2 + 1) (fun x5 => L_Model_worksOutTo_6 c1 K n x5 μ3))) zX0)
set_option maxRecDepth 100000 in
theorem l_Model_worksOutTo_6 {c1 : Int} {K : ZMem → Option ZRes} (hK : ∀ (μ : ZMem), AW cf_Model_worksOutTo S_Model.length S_Model S_Model 24 [] [] μ 0 0 (K μ)) : ∀ (n : Nat) (v2 : Int) (μ : ZMem), AW cf_Model_worksOutTo S_Model.length S_Model S_Model 6 [(0, zR (some 0)), (1, zI c1), (2, zI v2)] [] μ 0 0 (L_Model_worksOutTo_6 c1 K n v2 μ) := by
  intro n
  induction n with
  | zero => intro v2 μ; exact AW.noth
  | succ n ih =>
    intro v2 μ
    rw [L_Model_worksOutTo_6]
    refine AW.iload_n (i := 2) (a := v2) (by decide +kernel) rfl (?_ : AW _ _ _ _ 7 _ _ _ _ _ _)
    refine AW.iload_n (i := 1) (a := c1) (by decide +kernel) rfl (?_ : AW _ _ _ _ 8 _ _ _ _ _ _)
    refine AW.icmp_ge (off := 16) (tgt := 24) (by decide +kernel) (by decide) (fun _ => ?_) (fun _ => ?_)
    · refine AW.sub (L' := []) [] rfl ?_
      exact hK  μ
    · refine AW.aload_n (i := 0) (a := 0) (by decide +kernel) rfl (?_ : AW _ _ _ _ 12 _ _ _ _ _ _)
      refine AW.iload_n (i := 2) (a := v2) (by decide +kernel) rfl (?_ : AW _ _ _ _ 13 _ _ _ _ _ _)
      refine AW.bipush (n := 60) (by decide +kernel) (by decide +kernel) (?_ : AW _ _ _ _ 15 _ _ _ _ _ _)
      refine AW.callVw (g := cf_Model_doesAgain) (av := [zI v2, zI 60]) (b0 := 0) (ci := 9) (idx := 119) (n := 2) (st := []) (by decide +kernel) (fun l hl r hr => c_Model_doesAgain l hl v2 60 _ r hr) S_Model_wf rfl cal_Model_doesAgain rfl (zw4 zm_X9_119 zi_yX9_doesAgain zs_yX9_doesAgain zn_X9) rfl rfl ⟨by decide, by decide, by decide, by decide⟩ (Nat.le_of_ble_eq_true rfl) (Or.inl rfl) (fun v μ3 => AW.kV (?_ : AW _ _ _ _ 18 _ _ _ _ _ _) v)
      refine AW.iincL (i := 2) (n := 1) (a := v2) (L' := fun x5 => [(2, zI x5), (0, zR (some 0)), (1, zI c1)]) (by decide +kernel) rfl (by decide) (fun _ => rfl) (fun x5 => (?_ : AW _ _ _ _ 21 _ _ _ _ _ _))
      refine AW.goto (off := -15) (tgt := 6) (by decide +kernel) (by decide) ?_
      refine AW.sub (L' := [(0, zR (some 0)), (1, zI c1), (2, zI x5)]) [1, 2, 0] rfl ?_
      exact ih x5 μ3
def F_Model_worksOutTo (a1 : Int) (μ : ZMem) : Option ZRes := zC (F_Model_anew  μ) (zkV (fun μ1 => L_Model_worksOutTo_6 a1 (fun μ6 => some (.inr none, μ6)) zN 0 μ1)) zX0
set_option maxRecDepth 100000 in
theorem w_Model_worksOutTo (a1 : Int) (μ : ZMem) : AW cf_Model_worksOutTo S_Model.length S_Model S_Model 0 [(0, zR (some 0)), (1, zI a1)] [] μ 0 0 (F_Model_worksOutTo a1 μ) := by
  unfold F_Model_worksOutTo
  refine AW.aload_n (i := 0) (a := 0) (by decide +kernel) rfl (?_ : AW _ _ _ _ 1 _ _ _ _ _ _)
  refine AW.callVw (g := cf_Model_anew) (av := []) (b0 := 0) (ci := 9) (idx := 90) (n := 0) (st := []) (by decide +kernel) (fun l hl r hr => c_Model_anew l hl  _ r hr) S_Model_wf rfl cal_Model_anew rfl (zw4 zm_X9_90 zi_yX9_anew zs_yX9_anew zn_X9) rfl rfl ⟨by decide, by decide, by decide, by decide⟩ (Nat.le_of_ble_eq_true rfl) (Or.inl rfl) (fun v μ1 => AW.kV (?_ : AW _ _ _ _ 4 _ _ _ _ _ _) v)
  refine AW.iconst (n := 0) (by decide +kernel) (?_ : AW _ _ _ _ 5 _ _ _ _ _ _)
  refine AW.istore_n' (i := 2) (L' := [(2, zI 0), (0, zR (some 0)), (1, zI a1)]) (by decide +kernel) (by decide) rfl (?_ : AW _ _ _ _ 6 _ _ _ _ _ _)
  refine AW.sub (L' := [(0, zR (some 0)), (1, zI a1), (2, zI 0)]) [1, 2, 0] rfl ?_
  refine l_Model_worksOutTo_6 (fun μ6 => ?_) zN _ _
  exact AW.retv (by decide +kernel) rfl (by decide) (by decide)
theorem c_Model_worksOutTo (l : Launch) (hl : l.stackTraces = false) (a1 : Int) (μ : ZMem) (r : ZRes) (h : F_Model_worksOutTo a1 μ = some r) : ZC l cf_Model_worksOutTo S_Model S_Model [zR (some 0), zI a1] μ r := ZC.of hl (by decide +kernel) rfl rfl zft_X9_ok (Nat.le_of_ble_eq_true rfl) h (w_Model_worksOutTo a1 μ)
/-! WeirLedgerModel.behind(II)J -/
def cf_Model_behind : ZCf := (yX9_behind, cX9_behind, 5, some .long, [], 10, 0, 0, zft_X9, none)
theorem cal_Model_behind : zCallee cf_Model_behind 2 := ⟨rfl, zc_yX9_behind, by decide, by decide, by decide +kernel⟩
def J_Model_behind_128 (u3 : Int) (μ : ZMem) : Option ZRes := zC (F_Model_worksOut  μ) (zkV (fun μ8 => some (.inr (some (zJ u3)), μ8))) zX0
set_option maxRecDepth 100000 in
theorem j_Model_behind_128 (u3 : Int) (μ : ZMem) : AW cf_Model_behind S_Model.length S_Model S_Model 128 [(0, zR (some 0)), (3, zJ u3)] [] μ 0 0 (J_Model_behind_128 u3 μ) := by
  unfold J_Model_behind_128
  refine AW.aload_n (i := 0) (a := 0) (by decide +kernel) rfl (?_ : AW _ _ _ _ 129 _ _ _ _ _ _)
  refine AW.callVw (g := cf_Model_worksOut) (av := []) (b0 := 0) (ci := 9) (idx := 342) (n := 0) (st := []) (by decide +kernel) (fun l hl r hr => c_Model_worksOut l hl  _ r hr) S_Model_wf rfl cal_Model_worksOut rfl (zw4 zm_X9_342 zi_yX9_worksOut zs_yX9_worksOut zn_X9) rfl rfl ⟨by decide, by decide, by decide, by decide⟩ (Nat.le_of_ble_eq_true rfl) (Or.inl rfl) (fun v μ8 => AW.kV (?_ : AW _ _ _ _ 132 _ _ _ _ _ _) v)
  refine AW.lload_n (i := 3) (a := u3) (by decide +kernel) rfl (?_ : AW _ _ _ _ 133 _ _ _ _ _ _)
  exact AW.retl (by decide +kernel) rfl (by decide) (by decide)
def J_Model_behind_36 (a1 : Int) (a2 : Int) (y0 : Int) (μ : ZMem) : Option ZRes := zLet (zUp μ 0 0 y0) (fun μ3 => if w32 (μ3 0 0) ≤ 0 then (zC (F_Model_worksOutTo a1 μ3) (zkV (fun μ4 => if w32 a2 = 0 then (zRd μ4 5 92 86 (fun x7 => J_Model_behind_128 x7 μ4)) else (if w32 a2 = 1 then (zC (F_Model_gotAll  μ4) (zkJ (fun x12 μ11 => J_Model_behind_128 x12 μ11)) zX0) else (if w32 a2 = 2 then (zC (F_Model_uncalled (-1) μ4) (zkJ (fun x15 μ14 => J_Model_behind_128 x15 μ14)) zX0) else (if w32 a2 = 3 then (zC (F_Model_claw0  μ4) (zkJ (fun x18 μ17 => J_Model_behind_128 x18 μ17)) zX0) else (zRd μ4 5 92 90 (fun x19 => J_Model_behind_128 x19 μ4))))))) zX0) else (some (.inr (some (zJ 0)), μ3)))
set_option maxRecDepth 100000 in
theorem j_Model_behind_36 (a1 : Int) (a2 : Int) (y0 : Int) (μ : ZMem) : AW cf_Model_behind S_Model.length S_Model S_Model 36 [(0, zR (some 0)), (1, zI a1), (2, zI a2)] [zI y0, zR (some 0)] μ 0 0 (J_Model_behind_36 a1 a2 y0 μ) := by
  unfold J_Model_behind_36
  refine AW.putiL (idx := 93) (ci := 9) (k := 0) (r := 0) (by decide +kernel) rfl rfl rfl (fun μ3 => (?_ : AW _ _ _ _ 39 _ _ _ _ _ _))
  refine AW.aload_n (i := 0) (a := 0) (by decide +kernel) rfl (?_ : AW _ _ _ _ 40 _ _ _ _ _ _)
  refine AW.getI (idx := 93) (ci := 9) (k := 0) (r := 0) (by decide +kernel) rfl rfl rfl (?_ : AW _ _ _ _ 43 _ _ _ _ _ _)
  refine AW.if_le (off := 5) (tgt := 48) (by decide +kernel) (by decide) (fun _ => ?_) (fun _ => ?_)
  · refine AW.aload_n (i := 0) (a := 0) (by decide +kernel) rfl (?_ : AW _ _ _ _ 49 _ _ _ _ _ _)
    refine AW.iload_n (i := 1) (a := a1) (by decide +kernel) rfl (?_ : AW _ _ _ _ 50 _ _ _ _ _ _)
    refine AW.callVw (g := cf_Model_worksOutTo) (av := [zI a1]) (b0 := 0) (ci := 9) (idx := 417) (n := 1) (st := []) (by decide +kernel) (fun l hl r hr => c_Model_worksOutTo l hl a1 _ r hr) S_Model_wf rfl cal_Model_worksOutTo rfl (zw4 zm_X9_417 zi_yX9_worksOutTo zs_yX9_worksOutTo zn_X9) rfl rfl ⟨by decide, by decide, by decide, by decide⟩ (Nat.le_of_ble_eq_true rfl) (Or.inl rfl) (fun v μ4 => AW.kV (?_ : AW _ _ _ _ 53 _ _ _ _ _ _) v)
    refine AW.iload_n (i := 2) (a := a2) (by decide +kernel) rfl (?_ : AW _ _ _ _ 54 _ _ _ _ _ _)
    refine AW.tswC (dflt := 66) (lo := 0) (hi := 3) (offs := #[30, 41, 49, 58]) (len := 30) (k := 0) (off := 30) (tgt := 84) (by decide +kernel) (by decide) (by decide) rfl (by decide) (fun _ => ?_) (fun h6 => ?_)
    · refine AW.aload_n (i := 0) (a := 0) (by decide +kernel) rfl (?_ : AW _ _ _ _ 85 _ _ _ _ _ _)
      refine AW.getR (idx := 22) (ci := 9) (k := 7) (r := 0) (by decide +kernel) rfl rfl rfl (?_ : AW _ _ _ _ 88 _ _ _ _ _ _)
      refine AW.bipush (n := 86) (by decide +kernel) (by decide +kernel) (?_ : AW _ _ _ _ 90 _ _ _ _ _ _)
      refine AW.lald (r := 5) (by decide +kernel) rfl (fun x7 => (?_ : AW _ _ _ _ 91 _ _ _ _ _ _))
      refine AW.lstore_n' (i := 3) (L' := [(3, zJ x7), (0, zR (some 0)), (1, zI a1), (2, zI a2)]) (by decide +kernel) (by decide) rfl (?_ : AW _ _ _ _ 92 _ _ _ _ _ _)
      refine AW.goto (off := 36) (tgt := 128) (by decide +kernel) (by decide) ?_
      refine AW.sub (L' := [(0, zR (some 0)), (3, zJ x7)]) [1, 0] rfl ?_
      exact j_Model_behind_128 x7 μ4
    refine AW.tswC (dflt := 66) (lo := 0) (hi := 3) (offs := #[30, 41, 49, 58]) (len := 30) (k := 1) (off := 41) (tgt := 95) (by decide +kernel) (by decide) (by decide) rfl (by decide) (fun _ => ?_) (fun h10 => ?_)
    · refine AW.aload_n (i := 0) (a := 0) (by decide +kernel) rfl (?_ : AW _ _ _ _ 96 _ _ _ _ _ _)
      refine AW.callVw (g := cf_Model_gotAll) (av := []) (b0 := 0) (ci := 9) (idx := 390) (n := 0) (st := []) (by decide +kernel) (fun l hl r hr => c_Model_gotAll l hl  _ r hr) S_Model_wf rfl cal_Model_gotAll rfl (zw4 zm_X9_390 zi_yX9_gotAll zs_yX9_gotAll zn_X9) rfl rfl ⟨by decide, by decide, by decide, by decide⟩ (Nat.le_of_ble_eq_true rfl) (Or.inl rfl) (fun v μ11 => AW.kJ (fun x12 => (?_ : AW _ _ _ _ 99 _ _ _ _ _ _)) v)
      refine AW.lstore_n' (i := 3) (L' := [(3, zJ x12), (0, zR (some 0)), (1, zI a1), (2, zI a2)]) (by decide +kernel) (by decide) rfl (?_ : AW _ _ _ _ 100 _ _ _ _ _ _)
      refine AW.goto (off := 28) (tgt := 128) (by decide +kernel) (by decide) ?_
      refine AW.sub (L' := [(0, zR (some 0)), (3, zJ x12)]) [1, 0] rfl ?_
      exact j_Model_behind_128 x12 μ11
    refine AW.tswC (dflt := 66) (lo := 0) (hi := 3) (offs := #[30, 41, 49, 58]) (len := 30) (k := 2) (off := 49) (tgt := 103) (by decide +kernel) (by decide) (by decide) rfl (by decide) (fun _ => ?_) (fun h13 => ?_)
    · refine AW.aload_n (i := 0) (a := 0) (by decide +kernel) rfl (?_ : AW _ _ _ _ 104 _ _ _ _ _ _)
      refine AW.iconst (n := -1) (by decide +kernel) (?_ : AW _ _ _ _ 105 _ _ _ _ _ _)
      refine AW.callVw (g := cf_Model_uncalled) (av := [zI (-1)]) (b0 := 0) (ci := 9) (idx := 184) (n := 1) (st := []) (by decide +kernel) (fun l hl r hr => c_Model_uncalled l hl (-1) _ r hr) S_Model_wf rfl cal_Model_uncalled rfl (zw4 zm_X9_184 zi_yX9_uncalled zs_yX9_uncalled zn_X9) rfl rfl ⟨by decide, by decide, by decide, by decide⟩ (Nat.le_of_ble_eq_true rfl) (Or.inl rfl) (fun v μ14 => AW.kJ (fun x15 => (?_ : AW _ _ _ _ 108 _ _ _ _ _ _)) v)
      refine AW.lstore_n' (i := 3) (L' := [(3, zJ x15), (0, zR (some 0)), (1, zI a1), (2, zI a2)]) (by decide +kernel) (by decide) rfl (?_ : AW _ _ _ _ 109 _ _ _ _ _ _)
      refine AW.goto (off := 19) (tgt := 128) (by decide +kernel) (by decide) ?_
      refine AW.sub (L' := [(0, zR (some 0)), (3, zJ x15)]) [1, 0] rfl ?_
      exact j_Model_behind_128 x15 μ14
    refine AW.tswC (dflt := 66) (lo := 0) (hi := 3) (offs := #[30, 41, 49, 58]) (len := 30) (k := 3) (off := 58) (tgt := 112) (by decide +kernel) (by decide) (by decide) rfl (by decide) (fun _ => ?_) (fun h16 => ?_)
    · refine AW.aload_n (i := 0) (a := 0) (by decide +kernel) rfl (?_ : AW _ _ _ _ 113 _ _ _ _ _ _)
      refine AW.callVw (g := cf_Model_claw0) (av := []) (b0 := 0) (ci := 9) (idx := 384) (n := 0) (st := []) (by decide +kernel) (fun l hl r hr => c_Model_claw0 l hl  _ r hr) S_Model_wf rfl cal_Model_claw0 rfl (zw4 zm_X9_384 zi_yX9_claw0 zs_yX9_claw0 zn_X9) rfl rfl ⟨by decide, by decide, by decide, by decide⟩ (Nat.le_of_ble_eq_true rfl) (Or.inl rfl) (fun v μ17 => AW.kJ (fun x18 => (?_ : AW _ _ _ _ 116 _ _ _ _ _ _)) v)
      refine AW.lstore_n' (i := 3) (L' := [(3, zJ x18), (0, zR (some 0)), (1, zI a1), (2, zI a2)]) (by decide +kernel) (by decide) rfl (?_ : AW _ _ _ _ 117 _ _ _ _ _ _)
      refine AW.goto (off := 11) (tgt := 128) (by decide +kernel) (by decide) ?_
      refine AW.sub (L' := [(0, zR (some 0)), (3, zJ x18)]) [1, 0] rfl ?_
      exact j_Model_behind_128 x18 μ17
    refine AW.tswD (dflt := 66) (lo := 0) (hi := 3) (offs := #[30, 41, 49, 58]) (len := 30) (tgt := 120) (by decide +kernel) (by omega) (by decide) ?_
    refine AW.aload_n (i := 0) (a := 0) (by decide +kernel) rfl (?_ : AW _ _ _ _ 121 _ _ _ _ _ _)
    refine AW.getR (idx := 22) (ci := 9) (k := 7) (r := 0) (by decide +kernel) rfl rfl rfl (?_ : AW _ _ _ _ 124 _ _ _ _ _ _)
    refine AW.bipush (n := 90) (by decide +kernel) (by decide +kernel) (?_ : AW _ _ _ _ 126 _ _ _ _ _ _)
    refine AW.lald (r := 5) (by decide +kernel) rfl (fun x19 => (?_ : AW _ _ _ _ 127 _ _ _ _ _ _))
    refine AW.lstore_n' (i := 3) (L' := [(3, zJ x19), (0, zR (some 0)), (1, zI a1), (2, zI a2)]) (by decide +kernel) (by decide) rfl (?_ : AW _ _ _ _ 128 _ _ _ _ _ _)
    refine AW.sub (L' := [(0, zR (some 0)), (3, zJ x19)]) [1, 0] rfl ?_
    exact j_Model_behind_128 x19 μ4
  · refine AW.lconst0 (by decide +kernel) (?_ : AW _ _ _ _ 47 _ _ _ _ _ _)
    exact AW.retl (by decide +kernel) rfl (by decide) (by decide)
def F_Model_behind (a1 : Int) (a2 : Int) (μ : ZMem) : Option ZRes := zC (F_Model_isIn (w32 a1) 0 (w32 (μ 0 11)) μ) (zkI (fun x2 _ => if w32 x2 = 0 then (J_Model_behind_36 a1 a2 1 μ) else (zC (F_Model_isIn (w32 a2) 0 4 μ) (zkI (fun x21 _ => if w32 x21 = 0 then (J_Model_behind_36 a1 a2 2 μ) else (J_Model_behind_36 a1 a2 0 μ))) zX0))) zX0
set_option maxRecDepth 100000 in
theorem w_Model_behind (a1 : Int) (a2 : Int) (μ : ZMem) : AW cf_Model_behind S_Model.length S_Model S_Model 0 [(0, zR (some 0)), (1, zI a1), (2, zI a2)] [] μ 0 0 (F_Model_behind a1 a2 μ) := by
  unfold F_Model_behind
  refine AW.aload_n (i := 0) (a := 0) (by decide +kernel) rfl (?_ : AW _ _ _ _ 1 _ _ _ _ _ _)
  refine AW.iload_n (i := 1) (a := a1) (by decide +kernel) rfl (?_ : AW _ _ _ _ 2 _ _ _ _ _ _)
  refine AW.i2l (by decide +kernel) (?_ : AW _ _ _ _ 3 _ _ _ _ _ _)
  refine AW.lconst0 (by decide +kernel) (?_ : AW _ _ _ _ 4 _ _ _ _ _ _)
  refine AW.aload_n (i := 0) (a := 0) (by decide +kernel) rfl (?_ : AW _ _ _ _ 5 _ _ _ _ _ _)
  refine AW.getI (idx := 116) (ci := 9) (k := 11) (r := 0) (by decide +kernel) rfl rfl rfl (?_ : AW _ _ _ _ 8 _ _ _ _ _ _)
  refine AW.i2l (by decide +kernel) (?_ : AW _ _ _ _ 9 _ _ _ _ _ _)
  refine AW.callP (g := cf_Model_isIn) (av := [zJ (w32 a1), zJ 0, zJ (w32 (μ 0 11))]) (idx := 99) (n := 3) (st := [zR (some 0)]) (by decide +kernel) (fun l hl r hr => c_Model_isIn l hl (w32 a1) 0 (w32 (μ 0 11)) _ r hr) rfl cal_Model_isIn rfl (zw3 zm_X9_99 zt_yX9_isIn zn_X9) ⟨by decide, by decide, by decide, by decide⟩ (Nat.le_of_ble_eq_true rfl) (fun v _ => AW.kI (fun x2 => (?_ : AW _ _ _ _ 12 _ _ _ _ _ _)) v)
  refine AW.if_ne (off := 7) (tgt := 19) (by decide +kernel) (by decide) (fun _ => ?_) (fun _ => ?_)
  · refine AW.iconst (n := 1) (by decide +kernel) (?_ : AW _ _ _ _ 16 _ _ _ _ _ _)
    refine AW.goto (off := 20) (tgt := 36) (by decide +kernel) (by decide) ?_
    exact j_Model_behind_36 a1 a2 1 μ
  · refine AW.iload_n (i := 2) (a := a2) (by decide +kernel) rfl (?_ : AW _ _ _ _ 20 _ _ _ _ _ _)
    refine AW.i2l (by decide +kernel) (?_ : AW _ _ _ _ 21 _ _ _ _ _ _)
    refine AW.lconst0 (by decide +kernel) (?_ : AW _ _ _ _ 22 _ _ _ _ _ _)
    refine AW.ldc2 (idx := 356) (v := 4) (by decide +kernel) zk_X9_356 (?_ : AW _ _ _ _ 25 _ _ _ _ _ _)
    refine AW.callP (g := cf_Model_isIn) (av := [zJ (w32 a2), zJ 0, zJ 4]) (idx := 99) (n := 3) (st := [zR (some 0)]) (by decide +kernel) (fun l hl r hr => c_Model_isIn l hl (w32 a2) 0 4 _ r hr) rfl cal_Model_isIn rfl (zw3 zm_X9_99 zt_yX9_isIn zn_X9) ⟨by decide, by decide, by decide, by decide⟩ (Nat.le_of_ble_eq_true rfl) (fun v _ => AW.kI (fun x21 => (?_ : AW _ _ _ _ 28 _ _ _ _ _ _)) v)
    refine AW.if_ne (off := 7) (tgt := 35) (by decide +kernel) (by decide) (fun _ => ?_) (fun _ => ?_)
    · refine AW.iconst (n := 2) (by decide +kernel) (?_ : AW _ _ _ _ 32 _ _ _ _ _ _)
      refine AW.goto (off := 4) (tgt := 36) (by decide +kernel) (by decide) ?_
      exact j_Model_behind_36 a1 a2 2 μ
    · refine AW.iconst (n := 0) (by decide +kernel) (?_ : AW _ _ _ _ 36 _ _ _ _ _ _)
      exact j_Model_behind_36 a1 a2 0 μ
theorem c_Model_behind (l : Launch) (hl : l.stackTraces = false) (a1 : Int) (a2 : Int) (μ : ZMem) (r : ZRes) (h : F_Model_behind a1 a2 μ = some r) : ZC l cf_Model_behind S_Model S_Model [zR (some 0), zI a1, zI a2] μ r := ZC.of hl (by decide +kernel) rfl rfl zft_X9_ok (Nat.le_of_ble_eq_true rfl) h (w_Model_behind a1 a2 μ)
/-! WeirLedgerModel.owes(I)J -/
def cf_Model_owes : ZCf := (yX9_owes, cX9_owes, 2, some .long, [], 3, 0, 0, zft_X9, none)
theorem cal_Model_owes : zCallee cf_Model_owes 1 := ⟨rfl, zc_yX9_owes, by decide, by decide, by decide +kernel⟩
def F_Model_owes (a1 : Int) (μ : ZMem) : Option ZRes := zC (F_Model_ladderAt a1 0 μ) (zkI (fun x2 _ => zRd μ 5 92 x2 (fun x3 => zC (F_Model_ladderAt a1 1 μ) (zkI (fun x5 _ => zRd μ 5 92 x5 (fun x6 => some (.inr (some (zJ (x3 + x6))), μ)))) zX0))) zX0
set_option maxRecDepth 100000 in
theorem w_Model_owes (a1 : Int) (μ : ZMem) : AW cf_Model_owes S_Model.length S_Model S_Model 0 [(0, zR (some 0)), (1, zI a1)] [] μ 0 0 (F_Model_owes a1 μ) := by
  unfold F_Model_owes
  refine AW.aload_n (i := 0) (a := 0) (by decide +kernel) rfl (?_ : AW _ _ _ _ 1 _ _ _ _ _ _)
  refine AW.getR (idx := 22) (ci := 9) (k := 7) (r := 0) (by decide +kernel) rfl rfl rfl (?_ : AW _ _ _ _ 4 _ _ _ _ _ _)
  refine AW.iload_n (i := 1) (a := a1) (by decide +kernel) rfl (?_ : AW _ _ _ _ 5 _ _ _ _ _ _)
  refine AW.iconst (n := 0) (by decide +kernel) (?_ : AW _ _ _ _ 6 _ _ _ _ _ _)
  refine AW.callP (g := cf_Model_ladderAt) (av := [zI a1, zI 0]) (idx := 141) (n := 2) (st := [zR (some 5)]) (by decide +kernel) (fun l hl r hr => c_Model_ladderAt l hl a1 0 _ r hr) rfl cal_Model_ladderAt rfl (zw3 zm_X9_141 zt_yX9_ladderAt zn_X9) ⟨by decide, by decide, by decide, by decide⟩ (Nat.le_of_ble_eq_true rfl) (fun v _ => AW.kI (fun x2 => (?_ : AW _ _ _ _ 9 _ _ _ _ _ _)) v)
  refine AW.lald (r := 5) (by decide +kernel) rfl (fun x3 => (?_ : AW _ _ _ _ 10 _ _ _ _ _ _))
  refine AW.aload_n (i := 0) (a := 0) (by decide +kernel) rfl (?_ : AW _ _ _ _ 11 _ _ _ _ _ _)
  refine AW.getR (idx := 22) (ci := 9) (k := 7) (r := 0) (by decide +kernel) rfl rfl rfl (?_ : AW _ _ _ _ 14 _ _ _ _ _ _)
  refine AW.iload_n (i := 1) (a := a1) (by decide +kernel) rfl (?_ : AW _ _ _ _ 15 _ _ _ _ _ _)
  refine AW.iconst (n := 1) (by decide +kernel) (?_ : AW _ _ _ _ 16 _ _ _ _ _ _)
  refine AW.callP (g := cf_Model_ladderAt) (av := [zI a1, zI 1]) (idx := 141) (n := 2) (st := [zR (some 5), zJ x3]) (by decide +kernel) (fun l hl r hr => c_Model_ladderAt l hl a1 1 _ r hr) rfl cal_Model_ladderAt rfl (zw3 zm_X9_141 zt_yX9_ladderAt zn_X9) ⟨by decide, by decide, by decide, by decide⟩ (Nat.le_of_ble_eq_true rfl) (fun v _ => AW.kI (fun x5 => (?_ : AW _ _ _ _ 19 _ _ _ _ _ _)) v)
  refine AW.lald (r := 5) (by decide +kernel) rfl (fun x6 => (?_ : AW _ _ _ _ 20 _ _ _ _ _ _))
  refine AW.ladd (by decide +kernel) (?_ : AW _ _ _ _ 21 _ _ _ _ _ _)
  exact AW.retl (by decide +kernel) rfl (by decide) (by decide)
theorem c_Model_owes (l : Launch) (hl : l.stackTraces = false) (a1 : Int) (μ : ZMem) (r : ZRes) (h : F_Model_owes a1 μ = some r) : ZC l cf_Model_owes S_Model S_Model [zR (some 0), zI a1] μ r := ZC.of hl (by decide +kernel) rfl rfl zft_X9_ok (Nat.le_of_ble_eq_true rfl) h (w_Model_owes a1 μ)
/-! WeirLedgerModel.most()J -/
def cf_Model_most : ZCf := (yX9_most, cX9_most, 4, some .long, [], 10, 0, 0, zft_X9, none)
theorem cal_Model_most : zCallee cf_Model_most 0 := ⟨rfl, zc_yX9_most, by decide, by decide, by decide +kernel⟩
def L_Model_most_9 (K : Int → ZMem → Option ZRes) : Nat → Int → Int → ZMem → Option ZRes
  | 0, _, _, _ => none
  | n + 1, v1, v3, μ => if w32 (μ 0 11) < w32 v3 then (K v1 μ) else (zC (F_Model_worksOutTo v3 μ) (zkV (fun μ2 => zC (F_Model_owes 0 μ2) (zkJ (fun x5 μ4 => zC (F_Model_greater v1 x5 μ4) (zkJ (fun x7 _ => zLet (v3 + 1) (fun x8 => L_Model_most_9 K n x7 x8 μ4))) zX0)) zX0)) zX0)
set_option maxRecDepth 100000 in
theorem l_Model_most_9 {K : Int → ZMem → Option ZRes} (hK : ∀ (k1 : Int) (μ : ZMem), AW cf_Model_most S_Model.length S_Model S_Model 38 [(0, zR (some 0)), (1, zJ k1)] [] μ 0 0 (K k1 μ)) : ∀ (n : Nat) (v1 : Int) (v3 : Int) (μ : ZMem), AW cf_Model_most S_Model.length S_Model S_Model 9 [(0, zR (some 0)), (1, zJ v1), (3, zI v3)] [] μ 0 0 (L_Model_most_9 K n v1 v3 μ) := by
  intro n
  induction n with
  | zero => intro v1 v3 μ; exact AW.noth
  | succ n ih =>
    intro v1 v3 μ
    rw [L_Model_most_9]
    refine AW.iload_n (i := 3) (a := v3) (by decide +kernel) rfl (?_ : AW _ _ _ _ 10 _ _ _ _ _ _)
    refine AW.aload_n (i := 0) (a := 0) (by decide +kernel) rfl (?_ : AW _ _ _ _ 11 _ _ _ _ _ _)
    refine AW.getI (idx := 116) (ci := 9) (k := 11) (r := 0) (by decide +kernel) rfl rfl rfl (?_ : AW _ _ _ _ 14 _ _ _ _ _ _)
    refine AW.icmp_gt (off := 24) (tgt := 38) (by decide +kernel) (by decide) (fun _ => ?_) (fun _ => ?_)
    · refine AW.sub (L' := [(0, zR (some 0)), (1, zJ v1)]) [0, 1] rfl ?_
      exact hK v1 μ
    · refine AW.aload_n (i := 0) (a := 0) (by decide +kernel) rfl (?_ : AW _ _ _ _ 18 _ _ _ _ _ _)
      refine AW.iload_n (i := 3) (a := v3) (by decide +kernel) rfl (?_ : AW _ _ _ _ 19 _ _ _ _ _ _)
      refine AW.callVw (g := cf_Model_worksOutTo) (av := [zI v3]) (b0 := 0) (ci := 9) (idx := 417) (n := 1) (st := []) (by decide +kernel) (fun l hl r hr => c_Model_worksOutTo l hl v3 _ r hr) S_Model_wf rfl cal_Model_worksOutTo rfl (zw4 zm_X9_417 zi_yX9_worksOutTo zs_yX9_worksOutTo zn_X9) rfl rfl ⟨by decide, by decide, by decide, by decide⟩ (Nat.le_of_ble_eq_true rfl) (Or.inl rfl) (fun v μ2 => AW.kV (?_ : AW _ _ _ _ 22 _ _ _ _ _ _) v)
      refine AW.lload_n (i := 1) (a := v1) (by decide +kernel) rfl (?_ : AW _ _ _ _ 23 _ _ _ _ _ _)
      refine AW.aload_n (i := 0) (a := 0) (by decide +kernel) rfl (?_ : AW _ _ _ _ 24 _ _ _ _ _ _)
      refine AW.iconst (n := 0) (by decide +kernel) (?_ : AW _ _ _ _ 25 _ _ _ _ _ _)
      refine AW.callVw (g := cf_Model_owes) (av := [zI 0]) (b0 := 0) (ci := 9) (idx := 420) (n := 1) (st := [zJ v1]) (by decide +kernel) (fun l hl r hr => c_Model_owes l hl 0 _ r hr) S_Model_wf rfl cal_Model_owes rfl (zw4 zm_X9_420 zi_yX9_owes zs_yX9_owes zn_X9) rfl rfl ⟨by decide, by decide, by decide, by decide⟩ (Nat.le_of_ble_eq_true rfl) (Or.inl rfl) (fun v μ4 => AW.kJ (fun x5 => (?_ : AW _ _ _ _ 28 _ _ _ _ _ _)) v)
      refine AW.callP (g := cf_Model_greater) (av := [zJ v1, zJ x5]) (idx := 190) (n := 2) (st := []) (by decide +kernel) (fun l hl r hr => c_Model_greater l hl v1 x5 _ r hr) rfl cal_Model_greater rfl (zw3 zm_X9_190 zt_yX9_greater zn_X9) ⟨by decide, by decide, by decide, by decide⟩ (Nat.le_of_ble_eq_true rfl) (fun v _ => AW.kJ (fun x7 => (?_ : AW _ _ _ _ 31 _ _ _ _ _ _)) v)
      refine AW.lstore_n' (i := 1) (L' := [(1, zJ x7), (0, zR (some 0)), (3, zI v3)]) (by decide +kernel) (by decide) rfl (?_ : AW _ _ _ _ 32 _ _ _ _ _ _)
      refine AW.iincL (i := 3) (n := 1) (a := v3) (L' := fun x8 => [(3, zI x8), (1, zJ x7), (0, zR (some 0))]) (by decide +kernel) rfl (by decide) (fun _ => rfl) (fun x8 => (?_ : AW _ _ _ _ 35 _ _ _ _ _ _))
      refine AW.goto (off := -26) (tgt := 9) (by decide +kernel) (by decide) ?_
      refine AW.sub (L' := [(0, zR (some 0)), (1, zJ x7), (3, zI x8)]) [2, 1, 0] rfl ?_
      exact ih x7 x8 μ4
def F_Model_most (μ : ZMem) : Option ZRes := zLet (zUp μ 0 0 0) (fun μ1 => L_Model_most_9 (fun k10 μ9 => zC (F_Model_worksOut  μ9) (zkV (fun μ11 => some (.inr (some (zJ k10)), μ11))) zX0) zN 0 0 μ1)
set_option maxRecDepth 100000 in
theorem w_Model_most (μ : ZMem) : AW cf_Model_most S_Model.length S_Model S_Model 0 [(0, zR (some 0))] [] μ 0 0 (F_Model_most μ) := by
  unfold F_Model_most
  refine AW.aload_n (i := 0) (a := 0) (by decide +kernel) rfl (?_ : AW _ _ _ _ 1 _ _ _ _ _ _)
  refine AW.iconst (n := 0) (by decide +kernel) (?_ : AW _ _ _ _ 2 _ _ _ _ _ _)
  refine AW.putiL (idx := 93) (ci := 9) (k := 0) (r := 0) (by decide +kernel) rfl rfl rfl (fun μ1 => (?_ : AW _ _ _ _ 5 _ _ _ _ _ _))
  refine AW.lconst0 (by decide +kernel) (?_ : AW _ _ _ _ 6 _ _ _ _ _ _)
  refine AW.lstore_n' (i := 1) (L' := [(1, zJ 0), (0, zR (some 0))]) (by decide +kernel) (by decide) rfl (?_ : AW _ _ _ _ 7 _ _ _ _ _ _)
  refine AW.iconst (n := 0) (by decide +kernel) (?_ : AW _ _ _ _ 8 _ _ _ _ _ _)
  refine AW.istore_n' (i := 3) (L' := [(3, zI 0), (1, zJ 0), (0, zR (some 0))]) (by decide +kernel) (by decide) rfl (?_ : AW _ _ _ _ 9 _ _ _ _ _ _)
  refine AW.sub (L' := [(0, zR (some 0)), (1, zJ 0), (3, zI 0)]) [2, 1, 0] rfl ?_
  refine l_Model_most_9 (fun k10 μ9 => ?_) zN _ _ _
  refine AW.aload_n (i := 0) (a := 0) (by decide +kernel) rfl (?_ : AW _ _ _ _ 39 _ _ _ _ _ _)
  refine AW.callVw (g := cf_Model_worksOut) (av := []) (b0 := 0) (ci := 9) (idx := 342) (n := 0) (st := []) (by decide +kernel) (fun l hl r hr => c_Model_worksOut l hl  _ r hr) S_Model_wf rfl cal_Model_worksOut rfl (zw4 zm_X9_342 zi_yX9_worksOut zs_yX9_worksOut zn_X9) rfl rfl ⟨by decide, by decide, by decide, by decide⟩ (Nat.le_of_ble_eq_true rfl) (Or.inl rfl) (fun v μ11 => AW.kV (?_ : AW _ _ _ _ 42 _ _ _ _ _ _) v)
  refine AW.lload_n (i := 1) (a := k10) (by decide +kernel) rfl (?_ : AW _ _ _ _ 43 _ _ _ _ _ _)
  exact AW.retl (by decide +kernel) rfl (by decide) (by decide)
theorem c_Model_most (l : Launch) (hl : l.stackTraces = false) (μ : ZMem) (r : ZRes) (h : F_Model_most μ = some r) : ZC l cf_Model_most S_Model S_Model [zR (some 0)] μ r := ZC.of hl (by decide +kernel) rfl rfl zft_X9_ok (Nat.le_of_ble_eq_true rfl) h (w_Model_most μ)
/-! WeirLedgerModel.clean()I -/
def cf_Model_clean : ZCf := (yX9_clean, cX9_clean, 4, some .int, [], 10, 0, 0, zft_X9, none)
theorem cal_Model_clean : zCallee cf_Model_clean 0 := ⟨rfl, zc_yX9_clean, by decide, by decide, by decide +kernel⟩
def J_Model_clean_87 (R : Int → Int → ZMem → Option ZRes) (K : Int → ZMem → Option ZRes) (c1 : Int) (u3 : Int) (y0 : Int) (y1 : Int) (μ : ZMem) : Option ZRes := zLet ((y1 - y0)) (fun x9 => R x9 u3 μ)
set_option maxRecDepth 100000 in
theorem j_Model_clean_87 {R : Int → Int → ZMem → Option ZRes} {K : Int → ZMem → Option ZRes} (c1 : Int) (hR : ∀ (v2 : Int) (v3 : Int) (μ : ZMem), AW cf_Model_clean S_Model.length S_Model S_Model 21 [(0, zR (some 0)), (1, zI c1), (2, zI v2), (3, zI v3)] [] μ 0 0 (R v2 v3 μ)) (hK : ∀ (k2 : Int) (μ : ZMem), AW cf_Model_clean S_Model.length S_Model S_Model 92 [(0, zR (some 0)), (1, zI c1), (2, zI k2)] [] μ 0 0 (K k2 μ)) (u3 : Int) (y0 : Int) (y1 : Int) (μ : ZMem) : AW cf_Model_clean S_Model.length S_Model S_Model 87 [(0, zR (some 0)), (1, zI c1), (3, zI u3)] [zI y0, zI y1] μ 0 0 (J_Model_clean_87 R K c1 u3 y0 y1 μ) := by
  unfold J_Model_clean_87
  refine AW.isub (by decide +kernel) (?_ : AW _ _ _ _ 88 _ _ _ _ _ _)
  refine AW.istoreL_n (i := 2) (L' := fun x9 => [(2, zI x9), (0, zR (some 0)), (1, zI c1), (3, zI u3)]) (by decide +kernel) (by decide) (fun _ => rfl) (fun x9 => (?_ : AW _ _ _ _ 89 _ _ _ _ _ _))
  refine AW.goto (off := -68) (tgt := 21) (by decide +kernel) (by decide) ?_
  refine AW.sub (L' := [(0, zR (some 0)), (1, zI c1), (2, zI x9), (3, zI u3)]) [1, 2, 0, 3] rfl ?_
  exact hR x9 u3 μ
def J_Model_clean_76 (R : Int → Int → ZMem → Option ZRes) (K : Int → ZMem → Option ZRes) (c1 : Int) (u2 : Int) (y0 : Int) (μ : ZMem) : Option ZRes := if w32 y0 = 0 then (J_Model_clean_87 R K c1 y0 1 u2 μ) else (J_Model_clean_87 R K c1 y0 0 u2 μ)
set_option maxRecDepth 100000 in
theorem j_Model_clean_76 {R : Int → Int → ZMem → Option ZRes} {K : Int → ZMem → Option ZRes} (c1 : Int) (hR : ∀ (v2 : Int) (v3 : Int) (μ : ZMem), AW cf_Model_clean S_Model.length S_Model S_Model 21 [(0, zR (some 0)), (1, zI c1), (2, zI v2), (3, zI v3)] [] μ 0 0 (R v2 v3 μ)) (hK : ∀ (k2 : Int) (μ : ZMem), AW cf_Model_clean S_Model.length S_Model S_Model 92 [(0, zR (some 0)), (1, zI c1), (2, zI k2)] [] μ 0 0 (K k2 μ)) (u2 : Int) (y0 : Int) (μ : ZMem) : AW cf_Model_clean S_Model.length S_Model S_Model 76 [(0, zR (some 0)), (1, zI c1), (2, zI u2)] [zI y0] μ 0 0 (J_Model_clean_76 R K c1 u2 y0 μ) := by
  unfold J_Model_clean_76
  refine AW.istore_n' (i := 3) (L' := [(3, zI y0), (0, zR (some 0)), (1, zI c1), (2, zI u2)]) (by decide +kernel) (by decide) rfl (?_ : AW _ _ _ _ 77 _ _ _ _ _ _)
  refine AW.iload_n (i := 2) (a := u2) (by decide +kernel) rfl (?_ : AW _ _ _ _ 78 _ _ _ _ _ _)
  refine AW.iload_n (i := 3) (a := y0) (by decide +kernel) rfl (?_ : AW _ _ _ _ 79 _ _ _ _ _ _)
  refine AW.if_eq (off := 7) (tgt := 86) (by decide +kernel) (by decide) (fun _ => ?_) (fun _ => ?_)
  · refine AW.iconst (n := 1) (by decide +kernel) (?_ : AW _ _ _ _ 87 _ _ _ _ _ _)
    refine AW.sub (L' := [(0, zR (some 0)), (1, zI c1), (3, zI y0)]) [1, 2, 0] rfl ?_
    exact j_Model_clean_87 c1 hR hK y0 1 u2 μ
  · refine AW.iconst (n := 0) (by decide +kernel) (?_ : AW _ _ _ _ 83 _ _ _ _ _ _)
    refine AW.goto (off := 4) (tgt := 87) (by decide +kernel) (by decide) ?_
    refine AW.sub (L' := [(0, zR (some 0)), (1, zI c1), (3, zI y0)]) [1, 2, 0] rfl ?_
    exact j_Model_clean_87 c1 hR hK y0 0 u2 μ
def J_Model_clean_66 (R : Int → Int → ZMem → Option ZRes) (K : Int → ZMem → Option ZRes) (c1 : Int) (u2 : Int) (y0 : Int) (μ : ZMem) : Option ZRes := if w64 y0 = w64 0 then (J_Model_clean_76 R K c1 u2 1 μ) else (J_Model_clean_76 R K c1 u2 0 μ)
set_option maxRecDepth 100000 in
theorem j_Model_clean_66 {R : Int → Int → ZMem → Option ZRes} {K : Int → ZMem → Option ZRes} (c1 : Int) (hR : ∀ (v2 : Int) (v3 : Int) (μ : ZMem), AW cf_Model_clean S_Model.length S_Model S_Model 21 [(0, zR (some 0)), (1, zI c1), (2, zI v2), (3, zI v3)] [] μ 0 0 (R v2 v3 μ)) (hK : ∀ (k2 : Int) (μ : ZMem), AW cf_Model_clean S_Model.length S_Model S_Model 92 [(0, zR (some 0)), (1, zI c1), (2, zI k2)] [] μ 0 0 (K k2 μ)) (u2 : Int) (y0 : Int) (μ : ZMem) : AW cf_Model_clean S_Model.length S_Model S_Model 66 [(0, zR (some 0)), (1, zI c1), (2, zI u2)] [zJ y0] μ 0 0 (J_Model_clean_66 R K c1 u2 y0 μ) := by
  unfold J_Model_clean_66
  refine AW.lconst0 (by decide +kernel) (?_ : AW _ _ _ _ 67 _ _ _ _ _ _)
  refine AW.lcmp_ne (off := 7) (tgt := 75) (by decide +kernel) (by decide +kernel) (by decide) (fun _ => ?_) (fun _ => ?_)
  · refine AW.iconst (n := 1) (by decide +kernel) (?_ : AW _ _ _ _ 72 _ _ _ _ _ _)
    refine AW.goto (off := 4) (tgt := 76) (by decide +kernel) (by decide) ?_
    exact j_Model_clean_76 c1 hR hK u2 1 μ
  · refine AW.iconst (n := 0) (by decide +kernel) (?_ : AW _ _ _ _ 76 _ _ _ _ _ _)
    exact j_Model_clean_76 c1 hR hK u2 0 μ
def L_Model_clean_21 (c1 : Int) (K : Int → ZMem → Option ZRes) : Nat → Int → Int → ZMem → Option ZRes
  | 0, _, _, _ => none
  | n + 1, v2, v3, μ => if w32 v2 < 0 then (K v2 μ) else (if w32 v3 = 0 then (zWr μ 2 7 2 v2 (fun μ4 => zC (F_Model_worksOut  μ4) (zkV (fun μ5 => zRd μ5 5 92 91 (fun x7 => if w64 x7 = w64 1 then (zRd μ5 5 92 89 (fun x8 => J_Model_clean_66 (fun v2 v3 μ => L_Model_clean_21 c1 K n v2 v3 μ) K c1 v2 x8 μ5)) else (zC (F_Model_claw0  μ5) (zkJ (fun x11 μ10 => J_Model_clean_66 (fun v2 v3 μ => L_Model_clean_21 c1 K n v2 v3 μ) K c1 v2 x11 μ10)) zX0)))) zX0)) else (K v2 μ))
set_option maxRecDepth 100000 in
theorem l_Model_clean_21 {c1 : Int} {K : Int → ZMem → Option ZRes} (hK : ∀ (k2 : Int) (μ : ZMem), AW cf_Model_clean S_Model.length S_Model S_Model 92 [(0, zR (some 0)), (1, zI c1), (2, zI k2)] [] μ 0 0 (K k2 μ)) : ∀ (n : Nat) (v2 : Int) (v3 : Int) (μ : ZMem), AW cf_Model_clean S_Model.length S_Model S_Model 21 [(0, zR (some 0)), (1, zI c1), (2, zI v2), (3, zI v3)] [] μ 0 0 (L_Model_clean_21 c1 K n v2 v3 μ) := by
  intro n
  induction n with
  | zero => intro v2 v3 μ; exact AW.noth
  | succ n ih =>
    intro v2 v3 μ
    rw [L_Model_clean_21]
    refine AW.iload_n (i := 2) (a := v2) (by decide +kernel) rfl (?_ : AW _ _ _ _ 22 _ _ _ _ _ _)
    refine AW.if_lt (off := 70) (tgt := 92) (by decide +kernel) (by decide) (fun _ => ?_) (fun _ => ?_)
    · refine AW.sub (L' := [(0, zR (some 0)), (1, zI c1), (2, zI v2)]) [0, 1, 2] rfl ?_
      exact hK v2 μ
    · refine AW.iload_n (i := 3) (a := v3) (by decide +kernel) rfl (?_ : AW _ _ _ _ 26 _ _ _ _ _ _)
      refine AW.if_ne (off := 66) (tgt := 92) (by decide +kernel) (by decide) (fun _ => ?_) (fun _ => ?_)
      · refine AW.aload_n (i := 0) (a := 0) (by decide +kernel) rfl (?_ : AW _ _ _ _ 30 _ _ _ _ _ _)
        refine AW.getR (idx := 13) (ci := 9) (k := 2) (r := 0) (by decide +kernel) rfl rfl rfl (?_ : AW _ _ _ _ 33 _ _ _ _ _ _)
        refine AW.iconst (n := 2) (by decide +kernel) (?_ : AW _ _ _ _ 34 _ _ _ _ _ _)
        refine AW.iload_n (i := 2) (a := v2) (by decide +kernel) rfl (?_ : AW _ _ _ _ 35 _ _ _ _ _ _)
        refine AW.iastL (r := 2) (by decide +kernel) rfl (fun μ4 => (?_ : AW _ _ _ _ 36 _ _ _ _ _ _))
        refine AW.aload_n (i := 0) (a := 0) (by decide +kernel) rfl (?_ : AW _ _ _ _ 37 _ _ _ _ _ _)
        refine AW.callVw (g := cf_Model_worksOut) (av := []) (b0 := 0) (ci := 9) (idx := 342) (n := 0) (st := []) (by decide +kernel) (fun l hl r hr => c_Model_worksOut l hl  _ r hr) S_Model_wf rfl cal_Model_worksOut rfl (zw4 zm_X9_342 zi_yX9_worksOut zs_yX9_worksOut zn_X9) rfl rfl ⟨by decide, by decide, by decide, by decide⟩ (Nat.le_of_ble_eq_true rfl) (Or.inl rfl) (fun v μ5 => AW.kV (?_ : AW _ _ _ _ 40 _ _ _ _ _ _) v)
        refine AW.aload_n (i := 0) (a := 0) (by decide +kernel) rfl (?_ : AW _ _ _ _ 41 _ _ _ _ _ _)
        refine AW.getR (idx := 22) (ci := 9) (k := 7) (r := 0) (by decide +kernel) rfl rfl rfl (?_ : AW _ _ _ _ 44 _ _ _ _ _ _)
        refine AW.bipush (n := 91) (by decide +kernel) (by decide +kernel) (?_ : AW _ _ _ _ 46 _ _ _ _ _ _)
        refine AW.lald (r := 5) (by decide +kernel) rfl (fun x7 => (?_ : AW _ _ _ _ 47 _ _ _ _ _ _))
        refine AW.lconst1 (by decide +kernel) (?_ : AW _ _ _ _ 48 _ _ _ _ _ _)
        refine AW.lcmp_ne (off := 13) (tgt := 62) (by decide +kernel) (by decide +kernel) (by decide) (fun _ => ?_) (fun _ => ?_)
        · refine AW.aload_n (i := 0) (a := 0) (by decide +kernel) rfl (?_ : AW _ _ _ _ 53 _ _ _ _ _ _)
          refine AW.getR (idx := 22) (ci := 9) (k := 7) (r := 0) (by decide +kernel) rfl rfl rfl (?_ : AW _ _ _ _ 56 _ _ _ _ _ _)
          refine AW.bipush (n := 89) (by decide +kernel) (by decide +kernel) (?_ : AW _ _ _ _ 58 _ _ _ _ _ _)
          refine AW.lald (r := 5) (by decide +kernel) rfl (fun x8 => (?_ : AW _ _ _ _ 59 _ _ _ _ _ _))
          refine AW.goto (off := 7) (tgt := 66) (by decide +kernel) (by decide) ?_
          refine AW.sub (L' := [(0, zR (some 0)), (1, zI c1), (2, zI v2)]) [0, 1, 2] rfl ?_
          exact j_Model_clean_66 c1 ih hK v2 x8 μ5
        · refine AW.aload_n (i := 0) (a := 0) (by decide +kernel) rfl (?_ : AW _ _ _ _ 63 _ _ _ _ _ _)
          refine AW.callVw (g := cf_Model_claw0) (av := []) (b0 := 0) (ci := 9) (idx := 384) (n := 0) (st := []) (by decide +kernel) (fun l hl r hr => c_Model_claw0 l hl  _ r hr) S_Model_wf rfl cal_Model_claw0 rfl (zw4 zm_X9_384 zi_yX9_claw0 zs_yX9_claw0 zn_X9) rfl rfl ⟨by decide, by decide, by decide, by decide⟩ (Nat.le_of_ble_eq_true rfl) (Or.inl rfl) (fun v μ10 => AW.kJ (fun x11 => (?_ : AW _ _ _ _ 66 _ _ _ _ _ _)) v)
          refine AW.sub (L' := [(0, zR (some 0)), (1, zI c1), (2, zI v2)]) [0, 1, 2] rfl ?_
          exact j_Model_clean_66 c1 ih hK v2 x11 μ10
      · refine AW.sub (L' := [(0, zR (some 0)), (1, zI c1), (2, zI v2)]) [0, 1, 2] rfl ?_
        exact hK v2 μ
def F_Model_clean (μ : ZMem) : Option ZRes := zLet (zUp μ 0 0 0) (fun μ1 => zRd μ1 2 7 2 (fun x2 => zRd μ1 1 7 2 (fun x3 => L_Model_clean_21 x2 (fun k13 μ12 => zWr μ12 2 7 2 x2 (fun μ14 => zC (F_Model_worksOut  μ14) (zkV (fun μ15 => some (.inr (some (zI k13)), μ15))) zX0)) zN x3 0 μ1)))
set_option maxRecDepth 100000 in
theorem w_Model_clean (μ : ZMem) : AW cf_Model_clean S_Model.length S_Model S_Model 0 [(0, zR (some 0))] [] μ 0 0 (F_Model_clean μ) := by
  unfold F_Model_clean
  refine AW.aload_n (i := 0) (a := 0) (by decide +kernel) rfl (?_ : AW _ _ _ _ 1 _ _ _ _ _ _)
  refine AW.iconst (n := 0) (by decide +kernel) (?_ : AW _ _ _ _ 2 _ _ _ _ _ _)
  refine AW.putiL (idx := 93) (ci := 9) (k := 0) (r := 0) (by decide +kernel) rfl rfl rfl (fun μ1 => (?_ : AW _ _ _ _ 5 _ _ _ _ _ _))
  refine AW.aload_n (i := 0) (a := 0) (by decide +kernel) rfl (?_ : AW _ _ _ _ 6 _ _ _ _ _ _)
  refine AW.getR (idx := 13) (ci := 9) (k := 2) (r := 0) (by decide +kernel) rfl rfl rfl (?_ : AW _ _ _ _ 9 _ _ _ _ _ _)
  refine AW.iconst (n := 2) (by decide +kernel) (?_ : AW _ _ _ _ 10 _ _ _ _ _ _)
  refine AW.iald (r := 2) (by decide +kernel) rfl (fun x2 => (?_ : AW _ _ _ _ 11 _ _ _ _ _ _))
  refine AW.istore_n' (i := 1) (L' := [(1, zI x2), (0, zR (some 0))]) (by decide +kernel) (by decide) rfl (?_ : AW _ _ _ _ 12 _ _ _ _ _ _)
  refine AW.aload_n (i := 0) (a := 0) (by decide +kernel) rfl (?_ : AW _ _ _ _ 13 _ _ _ _ _ _)
  refine AW.getR (idx := 7) (ci := 9) (k := 1) (r := 0) (by decide +kernel) rfl rfl rfl (?_ : AW _ _ _ _ 16 _ _ _ _ _ _)
  refine AW.iconst (n := 2) (by decide +kernel) (?_ : AW _ _ _ _ 17 _ _ _ _ _ _)
  refine AW.iald (r := 1) (by decide +kernel) rfl (fun x3 => (?_ : AW _ _ _ _ 18 _ _ _ _ _ _))
  refine AW.istore_n' (i := 2) (L' := [(2, zI x3), (1, zI x2), (0, zR (some 0))]) (by decide +kernel) (by decide) rfl (?_ : AW _ _ _ _ 19 _ _ _ _ _ _)
  refine AW.iconst (n := 0) (by decide +kernel) (?_ : AW _ _ _ _ 20 _ _ _ _ _ _)
  refine AW.istore_n' (i := 3) (L' := [(3, zI 0), (2, zI x3), (1, zI x2), (0, zR (some 0))]) (by decide +kernel) (by decide) rfl (?_ : AW _ _ _ _ 21 _ _ _ _ _ _)
  refine AW.sub (L' := [(0, zR (some 0)), (1, zI x2), (2, zI x3), (3, zI 0)]) [3, 2, 1, 0] rfl ?_
  refine l_Model_clean_21 (fun k13 μ12 => ?_) zN _ _ _
  refine AW.aload_n (i := 0) (a := 0) (by decide +kernel) rfl (?_ : AW _ _ _ _ 93 _ _ _ _ _ _)
  refine AW.getR (idx := 13) (ci := 9) (k := 2) (r := 0) (by decide +kernel) rfl rfl rfl (?_ : AW _ _ _ _ 96 _ _ _ _ _ _)
  refine AW.iconst (n := 2) (by decide +kernel) (?_ : AW _ _ _ _ 97 _ _ _ _ _ _)
  refine AW.iload_n (i := 1) (a := x2) (by decide +kernel) rfl (?_ : AW _ _ _ _ 98 _ _ _ _ _ _)
  refine AW.iastL (r := 2) (by decide +kernel) rfl (fun μ14 => (?_ : AW _ _ _ _ 99 _ _ _ _ _ _))
  refine AW.aload_n (i := 0) (a := 0) (by decide +kernel) rfl (?_ : AW _ _ _ _ 100 _ _ _ _ _ _)
  refine AW.callVw (g := cf_Model_worksOut) (av := []) (b0 := 0) (ci := 9) (idx := 342) (n := 0) (st := []) (by decide +kernel) (fun l hl r hr => c_Model_worksOut l hl  _ r hr) S_Model_wf rfl cal_Model_worksOut rfl (zw4 zm_X9_342 zi_yX9_worksOut zs_yX9_worksOut zn_X9) rfl rfl ⟨by decide, by decide, by decide, by decide⟩ (Nat.le_of_ble_eq_true rfl) (Or.inl rfl) (fun v μ15 => AW.kV (?_ : AW _ _ _ _ 103 _ _ _ _ _ _) v)
  refine AW.iload_n (i := 2) (a := k13) (by decide +kernel) rfl (?_ : AW _ _ _ _ 104 _ _ _ _ _ _)
  exact AW.reti (by decide +kernel) rfl (by decide) (by decide)
theorem c_Model_clean (l : Launch) (hl : l.stackTraces = false) (μ : ZMem) (r : ZRes) (h : F_Model_clean μ = some r) : ZC l cf_Model_clean S_Model S_Model [zR (some 0)] μ r := ZC.of hl (by decide +kernel) rfl rfl zft_X9_ok (Nat.le_of_ble_eq_true rfl) h (w_Model_clean μ)
/-! WeirLedgerModel.idle()I -/
def cf_Model_idle : ZCf := (yX9_idle, cX9_idle, 5, some .int, [], 11, 0, 0, zft_X9, none)
theorem cal_Model_idle : zCallee cf_Model_idle 0 := ⟨rfl, zc_yX9_idle, by decide, by decide, by decide +kernel⟩
def J_Model_idle_41 (R : Int → Int → ZMem → Option ZRes) (K : Int → ZMem → Option ZRes) (c1 : Int) (u4 : Int) (y0 : Int) (y1 : Int) (μ : ZMem) : Option ZRes := zLet ((y1 + y0)) (fun x6 => zLet (u4 + 1) (fun x7 => R x6 x7 μ))
set_option maxRecDepth 100000 in
theorem j_Model_idle_41 {R : Int → Int → ZMem → Option ZRes} {K : Int → ZMem → Option ZRes} (c1 : Int) (hR : ∀ (v3 : Int) (v4 : Int) (μ : ZMem), AW cf_Model_idle S_Model.length S_Model S_Model 15 [(0, zR (some 0)), (1, zJ c1), (3, zI v3), (4, zI v4)] [] μ 0 0 (R v3 v4 μ)) (hK : ∀ (k3 : Int) (μ : ZMem), AW cf_Model_idle S_Model.length S_Model S_Model 49 [(3, zI k3)] [] μ 0 0 (K k3 μ)) (u4 : Int) (y0 : Int) (y1 : Int) (μ : ZMem) : AW cf_Model_idle S_Model.length S_Model S_Model 41 [(0, zR (some 0)), (1, zJ c1), (4, zI u4)] [zI y0, zI y1] μ 0 0 (J_Model_idle_41 R K c1 u4 y0 y1 μ) := by
  unfold J_Model_idle_41
  refine AW.iadd (by decide +kernel) (?_ : AW _ _ _ _ 42 _ _ _ _ _ _)
  refine AW.istoreL_n (i := 3) (L' := fun x6 => [(3, zI x6), (0, zR (some 0)), (1, zJ c1), (4, zI u4)]) (by decide +kernel) (by decide) (fun _ => rfl) (fun x6 => (?_ : AW _ _ _ _ 43 _ _ _ _ _ _))
  refine AW.iincL (i := 4) (n := 1) (a := u4) (L' := fun x7 => [(4, zI x7), (3, zI x6), (0, zR (some 0)), (1, zJ c1)]) (by decide +kernel) rfl (by decide) (fun _ => rfl) (fun x7 => (?_ : AW _ _ _ _ 46 _ _ _ _ _ _))
  refine AW.goto (off := -31) (tgt := 15) (by decide +kernel) (by decide) ?_
  refine AW.sub (L' := [(0, zR (some 0)), (1, zJ c1), (3, zI x6), (4, zI x7)]) [2, 3, 1, 0] rfl ?_
  exact hR x6 x7 μ
def L_Model_idle_15 (c1 : Int) (K : Int → ZMem → Option ZRes) : Nat → Int → Int → ZMem → Option ZRes
  | 0, _, _, _ => none
  | n + 1, v3, v4, μ => if w32 (μ 0 11) ≤ w32 v4 then (K v3 μ) else (zC (F_Model_keptWithout v4 μ) (zkJ (fun x5 μ4 => if w64 x5 = w64 c1 then (J_Model_idle_41 (fun v3 v4 μ => L_Model_idle_15 c1 K n v3 v4 μ) K c1 v4 1 v3 μ4) else (J_Model_idle_41 (fun v3 v4 μ => L_Model_idle_15 c1 K n v3 v4 μ) K c1 v4 0 v3 μ4))) zX0)
set_option maxRecDepth 100000 in
theorem l_Model_idle_15 {c1 : Int} {K : Int → ZMem → Option ZRes} (hK : ∀ (k3 : Int) (μ : ZMem), AW cf_Model_idle S_Model.length S_Model S_Model 49 [(3, zI k3)] [] μ 0 0 (K k3 μ)) : ∀ (n : Nat) (v3 : Int) (v4 : Int) (μ : ZMem), AW cf_Model_idle S_Model.length S_Model S_Model 15 [(0, zR (some 0)), (1, zJ c1), (3, zI v3), (4, zI v4)] [] μ 0 0 (L_Model_idle_15 c1 K n v3 v4 μ) := by
  intro n
  induction n with
  | zero => intro v3 v4 μ; exact AW.noth
  | succ n ih =>
    intro v3 v4 μ
    rw [L_Model_idle_15]
    refine AW.iload (i := 4) (a := v4) (by decide +kernel) rfl (?_ : AW _ _ _ _ 17 _ _ _ _ _ _)
    refine AW.aload_n (i := 0) (a := 0) (by decide +kernel) rfl (?_ : AW _ _ _ _ 18 _ _ _ _ _ _)
    refine AW.getI (idx := 116) (ci := 9) (k := 11) (r := 0) (by decide +kernel) rfl rfl rfl (?_ : AW _ _ _ _ 21 _ _ _ _ _ _)
    refine AW.icmp_ge (off := 28) (tgt := 49) (by decide +kernel) (by decide) (fun _ => ?_) (fun _ => ?_)
    · refine AW.sub (L' := [(3, zI v3)]) [2] rfl ?_
      exact hK v3 μ
    · refine AW.iload_n (i := 3) (a := v3) (by decide +kernel) rfl (?_ : AW _ _ _ _ 25 _ _ _ _ _ _)
      refine AW.aload_n (i := 0) (a := 0) (by decide +kernel) rfl (?_ : AW _ _ _ _ 26 _ _ _ _ _ _)
      refine AW.iload (i := 4) (a := v4) (by decide +kernel) rfl (?_ : AW _ _ _ _ 28 _ _ _ _ _ _)
      refine AW.callVw (g := cf_Model_keptWithout) (av := [zI v4]) (b0 := 0) (ci := 9) (idx := 414) (n := 1) (st := [zI v3]) (by decide +kernel) (fun l hl r hr => c_Model_keptWithout l hl v4 _ r hr) S_Model_wf rfl cal_Model_keptWithout rfl (zw4 zm_X9_414 zi_yX9_keptWithout zs_yX9_keptWithout zn_X9) rfl rfl ⟨by decide, by decide, by decide, by decide⟩ (Nat.le_of_ble_eq_true rfl) (Or.inl rfl) (fun v μ4 => AW.kJ (fun x5 => (?_ : AW _ _ _ _ 31 _ _ _ _ _ _)) v)
      refine AW.lload_n (i := 1) (a := c1) (by decide +kernel) rfl (?_ : AW _ _ _ _ 32 _ _ _ _ _ _)
      refine AW.lcmp_ne (off := 7) (tgt := 40) (by decide +kernel) (by decide +kernel) (by decide) (fun _ => ?_) (fun _ => ?_)
      · refine AW.iconst (n := 1) (by decide +kernel) (?_ : AW _ _ _ _ 37 _ _ _ _ _ _)
        refine AW.goto (off := 4) (tgt := 41) (by decide +kernel) (by decide) ?_
        refine AW.sub (L' := [(0, zR (some 0)), (1, zJ c1), (4, zI v4)]) [0, 1, 3] rfl ?_
        exact j_Model_idle_41 c1 ih hK v4 1 v3 μ4
      · refine AW.iconst (n := 0) (by decide +kernel) (?_ : AW _ _ _ _ 41 _ _ _ _ _ _)
        refine AW.sub (L' := [(0, zR (some 0)), (1, zJ c1), (4, zI v4)]) [0, 1, 3] rfl ?_
        exact j_Model_idle_41 c1 ih hK v4 0 v3 μ4
def F_Model_idle (μ : ZMem) : Option ZRes := zLet (zUp μ 0 0 0) (fun μ1 => zC (F_Model_keeps  μ1) (zkJ (fun x3 μ2 => L_Model_idle_15 x3 (fun k9 μ8 => some (.inr (some (zI k9)), μ8)) zN 0 0 μ2)) zX0)
set_option maxRecDepth 100000 in
theorem w_Model_idle (μ : ZMem) : AW cf_Model_idle S_Model.length S_Model S_Model 0 [(0, zR (some 0))] [] μ 0 0 (F_Model_idle μ) := by
  unfold F_Model_idle
  refine AW.aload_n (i := 0) (a := 0) (by decide +kernel) rfl (?_ : AW _ _ _ _ 1 _ _ _ _ _ _)
  refine AW.iconst (n := 0) (by decide +kernel) (?_ : AW _ _ _ _ 2 _ _ _ _ _ _)
  refine AW.putiL (idx := 93) (ci := 9) (k := 0) (r := 0) (by decide +kernel) rfl rfl rfl (fun μ1 => (?_ : AW _ _ _ _ 5 _ _ _ _ _ _))
  refine AW.aload_n (i := 0) (a := 0) (by decide +kernel) rfl (?_ : AW _ _ _ _ 6 _ _ _ _ _ _)
  refine AW.callVw (g := cf_Model_keeps) (av := []) (b0 := 0) (ci := 9) (idx := 405) (n := 0) (st := []) (by decide +kernel) (fun l hl r hr => c_Model_keeps l hl  _ r hr) S_Model_wf rfl cal_Model_keeps rfl (zw4 zm_X9_405 zi_yX9_keeps zs_yX9_keeps zn_X9) rfl rfl ⟨by decide, by decide, by decide, by decide⟩ (Nat.le_of_ble_eq_true rfl) (Or.inl rfl) (fun v μ2 => AW.kJ (fun x3 => (?_ : AW _ _ _ _ 9 _ _ _ _ _ _)) v)
  refine AW.lstore_n' (i := 1) (L' := [(1, zJ x3), (0, zR (some 0))]) (by decide +kernel) (by decide) rfl (?_ : AW _ _ _ _ 10 _ _ _ _ _ _)
  refine AW.iconst (n := 0) (by decide +kernel) (?_ : AW _ _ _ _ 11 _ _ _ _ _ _)
  refine AW.istore_n' (i := 3) (L' := [(3, zI 0), (1, zJ x3), (0, zR (some 0))]) (by decide +kernel) (by decide) rfl (?_ : AW _ _ _ _ 12 _ _ _ _ _ _)
  refine AW.iconst (n := 0) (by decide +kernel) (?_ : AW _ _ _ _ 13 _ _ _ _ _ _)
  refine AW.istore' (i := 4) (L' := [(4, zI 0), (3, zI 0), (1, zJ x3), (0, zR (some 0))]) (by decide +kernel) (by decide) rfl (?_ : AW _ _ _ _ 15 _ _ _ _ _ _)
  refine AW.sub (L' := [(0, zR (some 0)), (1, zJ x3), (3, zI 0), (4, zI 0)]) [3, 2, 1, 0] rfl ?_
  refine l_Model_idle_15 (fun k9 μ8 => ?_) zN _ _ _
  refine AW.iload_n (i := 3) (a := k9) (by decide +kernel) rfl (?_ : AW _ _ _ _ 50 _ _ _ _ _ _)
  exact AW.reti (by decide +kernel) rfl (by decide) (by decide)
theorem c_Model_idle (l : Launch) (hl : l.stackTraces = false) (μ : ZMem) (r : ZRes) (h : F_Model_idle μ = some r) : ZC l cf_Model_idle S_Model S_Model [zR (some 0)] μ r := ZC.of hl (by decide +kernel) rfl rfl zft_X9_ok (Nat.le_of_ble_eq_true rfl) h (w_Model_idle μ)
/-! WeirLedgerModel.blame()I -/
def cf_Model_blame : ZCf := (yX9_blame, cX9_blame, 7, some .int, [], 11, 0, 0, zft_X9, none)
theorem cal_Model_blame : zCallee cf_Model_blame 0 := ⟨rfl, zc_yX9_blame, by decide, by decide, by decide +kernel⟩
def J_Model_blame_50 (R : Int → Int → Int → ZMem → Option ZRes) (K : Int → ZMem → Option ZRes) (u1 : Int) (u2 : Int) (u4 : Int) (μ : ZMem) : Option ZRes := zLet (u4 + 1) (fun x4 => R u1 u2 x4 μ)
set_option maxRecDepth 100000 in
theorem j_Model_blame_50 {R : Int → Int → Int → ZMem → Option ZRes} {K : Int → ZMem → Option ZRes} (hR : ∀ (v1 : Int) (v2 : Int) (v4 : Int) (μ : ZMem), AW cf_Model_blame S_Model.length S_Model S_Model 12 [(0, zR (some 0)), (1, zI v1), (2, zJ v2), (4, zI v4)] [] μ 0 0 (R v1 v2 v4 μ)) (hK : ∀ (k1 : Int) (μ : ZMem), AW cf_Model_blame S_Model.length S_Model S_Model 56 [(1, zI k1)] [] μ 0 0 (K k1 μ)) (u1 : Int) (u2 : Int) (u4 : Int) (μ : ZMem) : AW cf_Model_blame S_Model.length S_Model S_Model 50 [(0, zR (some 0)), (1, zI u1), (2, zJ u2), (4, zI u4)] [] μ 0 0 (J_Model_blame_50 R K u1 u2 u4 μ) := by
  unfold J_Model_blame_50
  refine AW.iincL (i := 4) (n := 1) (a := u4) (L' := fun x4 => [(4, zI x4), (0, zR (some 0)), (1, zI u1), (2, zJ u2)]) (by decide +kernel) rfl (by decide) (fun _ => rfl) (fun x4 => (?_ : AW _ _ _ _ 53 _ _ _ _ _ _))
  refine AW.goto (off := -41) (tgt := 12) (by decide +kernel) (by decide) ?_
  refine AW.sub (L' := [(0, zR (some 0)), (1, zI u1), (2, zJ u2), (4, zI x4)]) [1, 2, 3, 0] rfl ?_
  exact hR u1 u2 x4 μ
def J_Model_blame_44 (R : Int → Int → Int → ZMem → Option ZRes) (K : Int → ZMem → Option ZRes) (u4 : Int) (u5 : Int) (μ : ZMem) : Option ZRes := J_Model_blame_50 R K u4 u5 u4 μ
set_option maxRecDepth 100000 in
theorem j_Model_blame_44 {R : Int → Int → Int → ZMem → Option ZRes} {K : Int → ZMem → Option ZRes} (hR : ∀ (v1 : Int) (v2 : Int) (v4 : Int) (μ : ZMem), AW cf_Model_blame S_Model.length S_Model S_Model 12 [(0, zR (some 0)), (1, zI v1), (2, zJ v2), (4, zI v4)] [] μ 0 0 (R v1 v2 v4 μ)) (hK : ∀ (k1 : Int) (μ : ZMem), AW cf_Model_blame S_Model.length S_Model S_Model 56 [(1, zI k1)] [] μ 0 0 (K k1 μ)) (u4 : Int) (u5 : Int) (μ : ZMem) : AW cf_Model_blame S_Model.length S_Model S_Model 44 [(0, zR (some 0)), (4, zI u4), (5, zJ u5)] [] μ 0 0 (J_Model_blame_44 R K u4 u5 μ) := by
  unfold J_Model_blame_44
  refine AW.iload (i := 4) (a := u4) (by decide +kernel) rfl (?_ : AW _ _ _ _ 46 _ _ _ _ _ _)
  refine AW.istore_n' (i := 1) (L' := [(1, zI u4), (0, zR (some 0)), (4, zI u4), (5, zJ u5)]) (by decide +kernel) (by decide) rfl (?_ : AW _ _ _ _ 47 _ _ _ _ _ _)
  refine AW.lload (i := 5) (a := u5) (by decide +kernel) rfl (?_ : AW _ _ _ _ 49 _ _ _ _ _ _)
  refine AW.lstore_n' (i := 2) (L' := [(2, zJ u5), (1, zI u4), (0, zR (some 0)), (4, zI u4), (5, zJ u5)]) (by decide +kernel) (by decide) rfl (?_ : AW _ _ _ _ 50 _ _ _ _ _ _)
  refine AW.sub (L' := [(0, zR (some 0)), (1, zI u4), (2, zJ u5), (4, zI u4)]) [2, 1, 0, 3] rfl ?_
  exact j_Model_blame_50 hR hK u4 u5 u4 μ
def L_Model_blame_12 (K : Int → ZMem → Option ZRes) : Nat → Int → Int → Int → ZMem → Option ZRes
  | 0, _, _, _, _ => none
  | n + 1, v1, v2, v4, μ => if w32 (μ 0 11) ≤ w32 v4 then (K v1 μ) else (zC (F_Model_keptWithout v4 μ) (zkJ (fun x3 μ2 => if w32 v1 = w32 (-1) then (J_Model_blame_44 (fun v1 v2 v4 μ => L_Model_blame_12 K n v1 v2 v4 μ) K v4 x3 μ2) else (if w64 v2 < w64 x3 then (J_Model_blame_44 (fun v1 v2 v4 μ => L_Model_blame_12 K n v1 v2 v4 μ) K v4 x3 μ2) else (J_Model_blame_50 (fun v1 v2 v4 μ => L_Model_blame_12 K n v1 v2 v4 μ) K v1 v2 v4 μ2)))) zX0)
set_option maxRecDepth 100000 in
theorem l_Model_blame_12 {K : Int → ZMem → Option ZRes} (hK : ∀ (k1 : Int) (μ : ZMem), AW cf_Model_blame S_Model.length S_Model S_Model 56 [(1, zI k1)] [] μ 0 0 (K k1 μ)) : ∀ (n : Nat) (v1 : Int) (v2 : Int) (v4 : Int) (μ : ZMem), AW cf_Model_blame S_Model.length S_Model S_Model 12 [(0, zR (some 0)), (1, zI v1), (2, zJ v2), (4, zI v4)] [] μ 0 0 (L_Model_blame_12 K n v1 v2 v4 μ) := by
  intro n
  induction n with
  | zero => intro v1 v2 v4 μ; exact AW.noth
  | succ n ih =>
    intro v1 v2 v4 μ
    rw [L_Model_blame_12]
    refine AW.iload (i := 4) (a := v4) (by decide +kernel) rfl (?_ : AW _ _ _ _ 14 _ _ _ _ _ _)
    refine AW.aload_n (i := 0) (a := 0) (by decide +kernel) rfl (?_ : AW _ _ _ _ 15 _ _ _ _ _ _)
    refine AW.getI (idx := 116) (ci := 9) (k := 11) (r := 0) (by decide +kernel) rfl rfl rfl (?_ : AW _ _ _ _ 18 _ _ _ _ _ _)
    refine AW.icmp_ge (off := 38) (tgt := 56) (by decide +kernel) (by decide) (fun _ => ?_) (fun _ => ?_)
    · refine AW.sub (L' := [(1, zI v1)]) [1] rfl ?_
      exact hK v1 μ
    · refine AW.aload_n (i := 0) (a := 0) (by decide +kernel) rfl (?_ : AW _ _ _ _ 22 _ _ _ _ _ _)
      refine AW.iload (i := 4) (a := v4) (by decide +kernel) rfl (?_ : AW _ _ _ _ 24 _ _ _ _ _ _)
      refine AW.callVw (g := cf_Model_keptWithout) (av := [zI v4]) (b0 := 0) (ci := 9) (idx := 414) (n := 1) (st := []) (by decide +kernel) (fun l hl r hr => c_Model_keptWithout l hl v4 _ r hr) S_Model_wf rfl cal_Model_keptWithout rfl (zw4 zm_X9_414 zi_yX9_keptWithout zs_yX9_keptWithout zn_X9) rfl rfl ⟨by decide, by decide, by decide, by decide⟩ (Nat.le_of_ble_eq_true rfl) (Or.inl rfl) (fun v μ2 => AW.kJ (fun x3 => (?_ : AW _ _ _ _ 27 _ _ _ _ _ _)) v)
      refine AW.lstore' (i := 5) (L' := [(5, zJ x3), (0, zR (some 0)), (1, zI v1), (2, zJ v2), (4, zI v4)]) (by decide +kernel) (by decide) rfl (?_ : AW _ _ _ _ 29 _ _ _ _ _ _)
      refine AW.iload_n (i := 1) (a := v1) (by decide +kernel) rfl (?_ : AW _ _ _ _ 30 _ _ _ _ _ _)
      refine AW.iconst (n := -1) (by decide +kernel) (?_ : AW _ _ _ _ 31 _ _ _ _ _ _)
      refine AW.icmp_eq (off := 13) (tgt := 44) (by decide +kernel) (by decide) (fun _ => ?_) (fun _ => ?_)
      · refine AW.sub (L' := [(0, zR (some 0)), (4, zI v4), (5, zJ x3)]) [1, 4, 0] rfl ?_
        exact j_Model_blame_44 ih hK v4 x3 μ2
      · refine AW.lload (i := 5) (a := x3) (by decide +kernel) rfl (?_ : AW _ _ _ _ 36 _ _ _ _ _ _)
        refine AW.lload_n (i := 2) (a := v2) (by decide +kernel) rfl (?_ : AW _ _ _ _ 37 _ _ _ _ _ _)
        refine AW.lcmp_gt (off := 6) (tgt := 44) (by decide +kernel) (by decide +kernel) (by decide) (fun _ => ?_) (fun _ => ?_)
        · refine AW.sub (L' := [(0, zR (some 0)), (4, zI v4), (5, zJ x3)]) [1, 4, 0] rfl ?_
          exact j_Model_blame_44 ih hK v4 x3 μ2
        · refine AW.goto (off := 9) (tgt := 50) (by decide +kernel) (by decide) ?_
          refine AW.sub (L' := [(0, zR (some 0)), (1, zI v1), (2, zJ v2), (4, zI v4)]) [1, 2, 3, 4] rfl ?_
          exact j_Model_blame_50 ih hK v1 v2 v4 μ2
def F_Model_blame (μ : ZMem) : Option ZRes := zLet (zUp μ 0 0 0) (fun μ1 => L_Model_blame_12 (fun k6 μ5 => some (.inr (some (zI k6)), μ5)) zN (-1) 0 0 μ1)
set_option maxRecDepth 100000 in
theorem w_Model_blame (μ : ZMem) : AW cf_Model_blame S_Model.length S_Model S_Model 0 [(0, zR (some 0))] [] μ 0 0 (F_Model_blame μ) := by
  unfold F_Model_blame
  refine AW.aload_n (i := 0) (a := 0) (by decide +kernel) rfl (?_ : AW _ _ _ _ 1 _ _ _ _ _ _)
  refine AW.iconst (n := 0) (by decide +kernel) (?_ : AW _ _ _ _ 2 _ _ _ _ _ _)
  refine AW.putiL (idx := 93) (ci := 9) (k := 0) (r := 0) (by decide +kernel) rfl rfl rfl (fun μ1 => (?_ : AW _ _ _ _ 5 _ _ _ _ _ _))
  refine AW.iconst (n := -1) (by decide +kernel) (?_ : AW _ _ _ _ 6 _ _ _ _ _ _)
  refine AW.istore_n' (i := 1) (L' := [(1, zI (-1)), (0, zR (some 0))]) (by decide +kernel) (by decide) rfl (?_ : AW _ _ _ _ 7 _ _ _ _ _ _)
  refine AW.lconst0 (by decide +kernel) (?_ : AW _ _ _ _ 8 _ _ _ _ _ _)
  refine AW.lstore_n' (i := 2) (L' := [(2, zJ 0), (1, zI (-1)), (0, zR (some 0))]) (by decide +kernel) (by decide) rfl (?_ : AW _ _ _ _ 9 _ _ _ _ _ _)
  refine AW.iconst (n := 0) (by decide +kernel) (?_ : AW _ _ _ _ 10 _ _ _ _ _ _)
  refine AW.istore' (i := 4) (L' := [(4, zI 0), (2, zJ 0), (1, zI (-1)), (0, zR (some 0))]) (by decide +kernel) (by decide) rfl (?_ : AW _ _ _ _ 12 _ _ _ _ _ _)
  refine AW.sub (L' := [(0, zR (some 0)), (1, zI (-1)), (2, zJ 0), (4, zI 0)]) [3, 2, 1, 0] rfl ?_
  refine l_Model_blame_12 (fun k6 μ5 => ?_) zN _ _ _ _
  refine AW.iload_n (i := 1) (a := k6) (by decide +kernel) rfl (?_ : AW _ _ _ _ 57 _ _ _ _ _ _)
  exact AW.reti (by decide +kernel) rfl (by decide) (by decide)
theorem c_Model_blame (l : Launch) (hl : l.stackTraces = false) (μ : ZMem) (r : ZRes) (h : F_Model_blame μ = some r) : ZC l cf_Model_blame S_Model S_Model [zR (some 0)] μ r := ZC.of hl (by decide +kernel) rfl rfl zft_X9_ok (Nat.le_of_ble_eq_true rfl) h (w_Model_blame μ)
/-! WeirLedgerModel.owed(II)J -/
def cf_Model_owed : ZCf := (yX9_owed, cX9_owed, 6, some .long, [], 5, 0, 0, zft_X9, none)
theorem cal_Model_owed : zCallee cf_Model_owed 2 := ⟨rfl, zc_yX9_owed, by decide, by decide, by decide +kernel⟩
def L_Model_owed_82 (c2 : Int) (c3 : Int) (K : ZMem → Option ZRes) : Nat → Int → ZMem → Option ZRes
  | 0, _, _ => none
  | n + 1, v4, μ => if w32 c2 ≤ w32 v4 then (K  μ) else (zC (F_Model_quarterGoes  μ) (zkV (fun μ8 => zLet (v4 + 1) (fun x10 => L_Model_owed_82 c2 c3 K n x10 μ8))) zX0)
set_option maxRecDepth 100000 in
theorem l_Model_owed_82 {c2 : Int} {c3 : Int} {K : ZMem → Option ZRes} (hK : ∀ (μ : ZMem), AW cf_Model_owed S_Model.length S_Model S_Model 98 [(0, zR (some 0)), (3, zI c3)] [] μ 0 0 (K μ)) : ∀ (n : Nat) (v4 : Int) (μ : ZMem), AW cf_Model_owed S_Model.length S_Model S_Model 82 [(0, zR (some 0)), (2, zI c2), (3, zI c3), (4, zI v4)] [] μ 0 0 (L_Model_owed_82 c2 c3 K n v4 μ) := by
  intro n
  induction n with
  | zero => intro v4 μ; exact AW.noth
  | succ n ih =>
    intro v4 μ
    rw [L_Model_owed_82]
    refine AW.iload (i := 4) (a := v4) (by decide +kernel) rfl (?_ : AW _ _ _ _ 84 _ _ _ _ _ _)
    refine AW.iload_n (i := 2) (a := c2) (by decide +kernel) rfl (?_ : AW _ _ _ _ 85 _ _ _ _ _ _)
    refine AW.icmp_ge (off := 13) (tgt := 98) (by decide +kernel) (by decide) (fun _ => ?_) (fun _ => ?_)
    · refine AW.sub (L' := [(0, zR (some 0)), (3, zI c3)]) [0, 2] rfl ?_
      exact hK  μ
    · refine AW.aload_n (i := 0) (a := 0) (by decide +kernel) rfl (?_ : AW _ _ _ _ 89 _ _ _ _ _ _)
      refine AW.callVw (g := cf_Model_quarterGoes) (av := []) (b0 := 0) (ci := 9) (idx := 208) (n := 0) (st := []) (by decide +kernel) (fun l hl r hr => c_Model_quarterGoes l hl  _ r hr) S_Model_wf rfl cal_Model_quarterGoes rfl (zw4 zm_X9_208 zi_yX9_quarterGoes zs_yX9_quarterGoes zn_X9) rfl rfl ⟨by decide, by decide, by decide, by decide⟩ (Nat.le_of_ble_eq_true rfl) (Or.inl rfl) (fun v μ8 => AW.kV (?_ : AW _ _ _ _ 92 _ _ _ _ _ _) v)
      refine AW.iincL (i := 4) (n := 1) (a := v4) (L' := fun x10 => [(4, zI x10), (0, zR (some 0)), (2, zI c2), (3, zI c3)]) (by decide +kernel) rfl (by decide) (fun _ => rfl) (fun x10 => (?_ : AW _ _ _ _ 95 _ _ _ _ _ _))
      refine AW.goto (off := -13) (tgt := 82) (by decide +kernel) (by decide) ?_
      refine AW.sub (L' := [(0, zR (some 0)), (2, zI c2), (3, zI c3), (4, zI x10)]) [1, 2, 3, 0] rfl ?_
      exact ih x10 μ8
def J_Model_owed_116 (y0 : Int) (y1 : Int) (μ : ZMem) : Option ZRes := zLet ((y1 + y0)) (fun x14 => zC (F_Model_comesBack  μ) (zkV (fun μ15 => some (.inr (some (zJ x14)), μ15))) zX0)
set_option maxRecDepth 100000 in
theorem j_Model_owed_116 (y0 : Int) (y1 : Int) (μ : ZMem) : AW cf_Model_owed S_Model.length S_Model S_Model 116 [(0, zR (some 0))] [zJ y0, zJ y1] μ 0 0 (J_Model_owed_116 y0 y1 μ) := by
  unfold J_Model_owed_116
  refine AW.ladd (by decide +kernel) (?_ : AW _ _ _ _ 117 _ _ _ _ _ _)
  refine AW.lstoreL (i := 4) (L' := fun x14 => [(4, zJ x14), (0, zR (some 0))]) (by decide +kernel) (by decide) (fun _ => rfl) (fun x14 => (?_ : AW _ _ _ _ 119 _ _ _ _ _ _))
  refine AW.aload_n (i := 0) (a := 0) (by decide +kernel) rfl (?_ : AW _ _ _ _ 120 _ _ _ _ _ _)
  refine AW.callVw (g := cf_Model_comesBack) (av := []) (b0 := 0) (ci := 9) (idx := 377) (n := 0) (st := []) (by decide +kernel) (fun l hl r hr => c_Model_comesBack l hl  _ r hr) S_Model_wf rfl cal_Model_comesBack rfl (zw4 zm_X9_377 zi_yX9_comesBack zs_yX9_comesBack zn_X9) rfl rfl ⟨by decide, by decide, by decide, by decide⟩ (Nat.le_of_ble_eq_true rfl) (Or.inl rfl) (fun v μ15 => AW.kV (?_ : AW _ _ _ _ 123 _ _ _ _ _ _) v)
  refine AW.lload (i := 4) (a := x14) (by decide +kernel) rfl (?_ : AW _ _ _ _ 125 _ _ _ _ _ _)
  exact AW.retl (by decide +kernel) rfl (by decide) (by decide)
def J_Model_owed_57 (a1 : Int) (a2 : Int) (y0 : Int) (μ : ZMem) : Option ZRes := zLet (zUp μ 0 0 y0) (fun μ3 => if w32 (μ3 0 0) ≤ 0 then (zC (F_Model_ladderOf a1 μ3) (zkI (fun x5 μ4 => zC (F_Model_putsAside  μ4) (zkV (fun μ6 => L_Model_owed_82 a2 x5 (fun μ11 => zC (F_Model_owes x5 μ11) (zkJ (fun x13 μ12 => if w32 x5 ≤ 0 then (J_Model_owed_116 0 x13 μ12) else (zC (F_Model_owes 1 μ12) (zkJ (fun x18 μ17 => J_Model_owed_116 x18 x13 μ17)) zX0))) zX0) zN 0 μ6)) zX0)) zX0) else (some (.inr (some (zJ 0)), μ3)))
set_option maxRecDepth 100000 in
theorem j_Model_owed_57 (a1 : Int) (a2 : Int) (y0 : Int) (μ : ZMem) : AW cf_Model_owed S_Model.length S_Model S_Model 57 [(0, zR (some 0)), (1, zI a1), (2, zI a2)] [zI y0, zR (some 0)] μ 0 0 (J_Model_owed_57 a1 a2 y0 μ) := by
  unfold J_Model_owed_57
  refine AW.putiL (idx := 93) (ci := 9) (k := 0) (r := 0) (by decide +kernel) rfl rfl rfl (fun μ3 => (?_ : AW _ _ _ _ 60 _ _ _ _ _ _))
  refine AW.aload_n (i := 0) (a := 0) (by decide +kernel) rfl (?_ : AW _ _ _ _ 61 _ _ _ _ _ _)
  refine AW.getI (idx := 93) (ci := 9) (k := 0) (r := 0) (by decide +kernel) rfl rfl rfl (?_ : AW _ _ _ _ 64 _ _ _ _ _ _)
  refine AW.if_le (off := 5) (tgt := 69) (by decide +kernel) (by decide) (fun _ => ?_) (fun _ => ?_)
  · refine AW.aload_n (i := 0) (a := 0) (by decide +kernel) rfl (?_ : AW _ _ _ _ 70 _ _ _ _ _ _)
    refine AW.iload_n (i := 1) (a := a1) (by decide +kernel) rfl (?_ : AW _ _ _ _ 71 _ _ _ _ _ _)
    refine AW.callVw (g := cf_Model_ladderOf) (av := [zI a1]) (b0 := 0) (ci := 9) (idx := 373) (n := 1) (st := []) (by decide +kernel) (fun l hl r hr => c_Model_ladderOf l hl a1 _ r hr) S_Model_wf rfl cal_Model_ladderOf rfl (zw4 zm_X9_373 zi_yX9_ladderOf zs_yX9_ladderOf zn_X9) rfl rfl ⟨by decide, by decide, by decide, by decide⟩ (Nat.le_of_ble_eq_true rfl) (Or.inl rfl) (fun v μ4 => AW.kI (fun x5 => (?_ : AW _ _ _ _ 74 _ _ _ _ _ _)) v)
    refine AW.istore_n' (i := 3) (L' := [(3, zI x5), (0, zR (some 0)), (1, zI a1), (2, zI a2)]) (by decide +kernel) (by decide) rfl (?_ : AW _ _ _ _ 75 _ _ _ _ _ _)
    refine AW.aload_n (i := 0) (a := 0) (by decide +kernel) rfl (?_ : AW _ _ _ _ 76 _ _ _ _ _ _)
    refine AW.callVw (g := cf_Model_putsAside) (av := []) (b0 := 0) (ci := 9) (idx := 370) (n := 0) (st := []) (by decide +kernel) (fun l hl r hr => c_Model_putsAside l hl  _ r hr) S_Model_wf rfl cal_Model_putsAside rfl (zw4 zm_X9_370 zi_yX9_putsAside zs_yX9_putsAside zn_X9) rfl rfl ⟨by decide, by decide, by decide, by decide⟩ (Nat.le_of_ble_eq_true rfl) (Or.inl rfl) (fun v μ6 => AW.kV (?_ : AW _ _ _ _ 79 _ _ _ _ _ _) v)
    refine AW.iconst (n := 0) (by decide +kernel) (?_ : AW _ _ _ _ 80 _ _ _ _ _ _)
    refine AW.istore' (i := 4) (L' := [(4, zI 0), (3, zI x5), (0, zR (some 0)), (1, zI a1), (2, zI a2)]) (by decide +kernel) (by decide) rfl (?_ : AW _ _ _ _ 82 _ _ _ _ _ _)
    refine AW.sub (L' := [(0, zR (some 0)), (2, zI a2), (3, zI x5), (4, zI 0)]) [2, 4, 1, 0] rfl ?_
    refine l_Model_owed_82 (fun μ11 => ?_) zN _ _
    refine AW.aload_n (i := 0) (a := 0) (by decide +kernel) rfl (?_ : AW _ _ _ _ 99 _ _ _ _ _ _)
    refine AW.iload_n (i := 3) (a := x5) (by decide +kernel) rfl (?_ : AW _ _ _ _ 100 _ _ _ _ _ _)
    refine AW.callVw (g := cf_Model_owes) (av := [zI x5]) (b0 := 0) (ci := 9) (idx := 420) (n := 1) (st := []) (by decide +kernel) (fun l hl r hr => c_Model_owes l hl x5 _ r hr) S_Model_wf rfl cal_Model_owes rfl (zw4 zm_X9_420 zi_yX9_owes zs_yX9_owes zn_X9) rfl rfl ⟨by decide, by decide, by decide, by decide⟩ (Nat.le_of_ble_eq_true rfl) (Or.inl rfl) (fun v μ12 => AW.kJ (fun x13 => (?_ : AW _ _ _ _ 103 _ _ _ _ _ _)) v)
    refine AW.iload_n (i := 3) (a := x5) (by decide +kernel) rfl (?_ : AW _ _ _ _ 104 _ _ _ _ _ _)
    refine AW.if_le (off := 11) (tgt := 115) (by decide +kernel) (by decide) (fun _ => ?_) (fun _ => ?_)
    · refine AW.lconst0 (by decide +kernel) (?_ : AW _ _ _ _ 116 _ _ _ _ _ _)
      refine AW.sub (L' := [(0, zR (some 0))]) [0] rfl ?_
      exact j_Model_owed_116 0 x13 μ12
    · refine AW.aload_n (i := 0) (a := 0) (by decide +kernel) rfl (?_ : AW _ _ _ _ 108 _ _ _ _ _ _)
      refine AW.iconst (n := 1) (by decide +kernel) (?_ : AW _ _ _ _ 109 _ _ _ _ _ _)
      refine AW.callVw (g := cf_Model_owes) (av := [zI 1]) (b0 := 0) (ci := 9) (idx := 420) (n := 1) (st := [zJ x13]) (by decide +kernel) (fun l hl r hr => c_Model_owes l hl 1 _ r hr) S_Model_wf rfl cal_Model_owes rfl (zw4 zm_X9_420 zi_yX9_owes zs_yX9_owes zn_X9) rfl rfl ⟨by decide, by decide, by decide, by decide⟩ (Nat.le_of_ble_eq_true rfl) (Or.inl rfl) (fun v μ17 => AW.kJ (fun x18 => (?_ : AW _ _ _ _ 112 _ _ _ _ _ _)) v)
      refine AW.goto (off := 4) (tgt := 116) (by decide +kernel) (by decide) ?_
      refine AW.sub (L' := [(0, zR (some 0))]) [0] rfl ?_
      exact j_Model_owed_116 x18 x13 μ17
  · refine AW.lconst0 (by decide +kernel) (?_ : AW _ _ _ _ 68 _ _ _ _ _ _)
    exact AW.retl (by decide +kernel) rfl (by decide) (by decide)
def J_Model_owed_52 (a1 : Int) (a2 : Int) (μ : ZMem) : Option ZRes := J_Model_owed_57 a1 a2 2 μ
set_option maxRecDepth 100000 in
theorem j_Model_owed_52 (a1 : Int) (a2 : Int) (μ : ZMem) : AW cf_Model_owed S_Model.length S_Model S_Model 52 [(0, zR (some 0)), (1, zI a1), (2, zI a2)] [zR (some 0)] μ 0 0 (J_Model_owed_52 a1 a2 μ) := by
  unfold J_Model_owed_52
  refine AW.iconst (n := 2) (by decide +kernel) (?_ : AW _ _ _ _ 53 _ _ _ _ _ _)
  refine AW.goto (off := 4) (tgt := 57) (by decide +kernel) (by decide) ?_
  exact j_Model_owed_57 a1 a2 2 μ
def F_Model_owed (a1 : Int) (a2 : Int) (μ : ZMem) : Option ZRes := zC (F_Model_isIn (w32 a1) (-1) (w32 ((μ 0 6) - 1)) μ) (zkI (fun x2 _ => if w32 x2 = 0 then (J_Model_owed_57 a1 a2 1 μ) else (zC (F_Model_isIn (w32 a2) 0 60 μ) (zkI (fun x20 _ => if w32 x20 = 0 then (J_Model_owed_52 a1 a2 μ) else (zRd μ 5 92 90 (fun x21 => if w64 (x21 + (w32 a2)) ≤ w64 200 then (J_Model_owed_57 a1 a2 0 μ) else (J_Model_owed_52 a1 a2 μ))))) zX0))) zX0
set_option maxRecDepth 100000 in
theorem w_Model_owed (a1 : Int) (a2 : Int) (μ : ZMem) : AW cf_Model_owed S_Model.length S_Model S_Model 0 [(0, zR (some 0)), (1, zI a1), (2, zI a2)] [] μ 0 0 (F_Model_owed a1 a2 μ) := by
  unfold F_Model_owed
  refine AW.aload_n (i := 0) (a := 0) (by decide +kernel) rfl (?_ : AW _ _ _ _ 1 _ _ _ _ _ _)
  refine AW.iload_n (i := 1) (a := a1) (by decide +kernel) rfl (?_ : AW _ _ _ _ 2 _ _ _ _ _ _)
  refine AW.i2l (by decide +kernel) (?_ : AW _ _ _ _ 3 _ _ _ _ _ _)
  refine AW.ldc2 (idx := 127) (v := -1) (by decide +kernel) zk_X9_127 (?_ : AW _ _ _ _ 6 _ _ _ _ _ _)
  refine AW.aload_n (i := 0) (a := 0) (by decide +kernel) rfl (?_ : AW _ _ _ _ 7 _ _ _ _ _ _)
  refine AW.getI (idx := 103) (ci := 9) (k := 6) (r := 0) (by decide +kernel) rfl rfl rfl (?_ : AW _ _ _ _ 10 _ _ _ _ _ _)
  refine AW.iconst (n := 1) (by decide +kernel) (?_ : AW _ _ _ _ 11 _ _ _ _ _ _)
  refine AW.isub (by decide +kernel) (?_ : AW _ _ _ _ 12 _ _ _ _ _ _)
  refine AW.i2l (by decide +kernel) (?_ : AW _ _ _ _ 13 _ _ _ _ _ _)
  refine AW.callP (g := cf_Model_isIn) (av := [zJ (w32 a1), zJ (-1), zJ (w32 ((μ 0 6) - 1))]) (idx := 99) (n := 3) (st := [zR (some 0)]) (by decide +kernel) (fun l hl r hr => c_Model_isIn l hl (w32 a1) (-1) (w32 ((μ 0 6) - 1)) _ r hr) rfl cal_Model_isIn rfl (zw3 zm_X9_99 zt_yX9_isIn zn_X9) ⟨by decide, by decide, by decide, by decide⟩ (Nat.le_of_ble_eq_true rfl) (fun v _ => AW.kI (fun x2 => (?_ : AW _ _ _ _ 16 _ _ _ _ _ _)) v)
  refine AW.if_ne (off := 7) (tgt := 23) (by decide +kernel) (by decide) (fun _ => ?_) (fun _ => ?_)
  · refine AW.iconst (n := 1) (by decide +kernel) (?_ : AW _ _ _ _ 20 _ _ _ _ _ _)
    refine AW.goto (off := 37) (tgt := 57) (by decide +kernel) (by decide) ?_
    exact j_Model_owed_57 a1 a2 1 μ
  · refine AW.iload_n (i := 2) (a := a2) (by decide +kernel) rfl (?_ : AW _ _ _ _ 24 _ _ _ _ _ _)
    refine AW.i2l (by decide +kernel) (?_ : AW _ _ _ _ 25 _ _ _ _ _ _)
    refine AW.lconst0 (by decide +kernel) (?_ : AW _ _ _ _ 26 _ _ _ _ _ _)
    refine AW.ldc2 (idx := 366) (v := 60) (by decide +kernel) zk_X9_366 (?_ : AW _ _ _ _ 29 _ _ _ _ _ _)
    refine AW.callP (g := cf_Model_isIn) (av := [zJ (w32 a2), zJ 0, zJ 60]) (idx := 99) (n := 3) (st := [zR (some 0)]) (by decide +kernel) (fun l hl r hr => c_Model_isIn l hl (w32 a2) 0 60 _ r hr) rfl cal_Model_isIn rfl (zw3 zm_X9_99 zt_yX9_isIn zn_X9) ⟨by decide, by decide, by decide, by decide⟩ (Nat.le_of_ble_eq_true rfl) (fun v _ => AW.kI (fun x20 => (?_ : AW _ _ _ _ 32 _ _ _ _ _ _)) v)
    refine AW.if_eq (off := 20) (tgt := 52) (by decide +kernel) (by decide) (fun _ => ?_) (fun _ => ?_)
    · exact j_Model_owed_52 a1 a2 μ
    · refine AW.aload_n (i := 0) (a := 0) (by decide +kernel) rfl (?_ : AW _ _ _ _ 36 _ _ _ _ _ _)
      refine AW.getR (idx := 22) (ci := 9) (k := 7) (r := 0) (by decide +kernel) rfl rfl rfl (?_ : AW _ _ _ _ 39 _ _ _ _ _ _)
      refine AW.bipush (n := 90) (by decide +kernel) (by decide +kernel) (?_ : AW _ _ _ _ 41 _ _ _ _ _ _)
      refine AW.lald (r := 5) (by decide +kernel) rfl (fun x21 => (?_ : AW _ _ _ _ 42 _ _ _ _ _ _))
      refine AW.iload_n (i := 2) (a := a2) (by decide +kernel) rfl (?_ : AW _ _ _ _ 43 _ _ _ _ _ _)
      refine AW.i2l (by decide +kernel) (?_ : AW _ _ _ _ 44 _ _ _ _ _ _)
      refine AW.ladd (by decide +kernel) (?_ : AW _ _ _ _ 45 _ _ _ _ _ _)
      refine AW.ldc2 (idx := 220) (v := 200) (by decide +kernel) zk_X9_220 (?_ : AW _ _ _ _ 48 _ _ _ _ _ _)
      refine AW.lcmp_le (off := 7) (tgt := 56) (by decide +kernel) (by decide +kernel) (by decide) (fun _ => ?_) (fun _ => ?_)
      · refine AW.iconst (n := 0) (by decide +kernel) (?_ : AW _ _ _ _ 57 _ _ _ _ _ _)
        exact j_Model_owed_57 a1 a2 0 μ
      · exact j_Model_owed_52 a1 a2 μ
theorem c_Model_owed (l : Launch) (hl : l.stackTraces = false) (a1 : Int) (a2 : Int) (μ : ZMem) (r : ZRes) (h : F_Model_owed a1 a2 μ = some r) : ZC l cf_Model_owed S_Model S_Model [zR (some 0), zI a1, zI a2] μ r := ZC.of hl (by decide +kernel) rfl rfl zft_X9_ok (Nat.le_of_ble_eq_true rfl) h (w_Model_owed a1 a2 μ)
/-! WeirLedgerModel.patience(I)I -/
def cf_Model_patience : ZCf := (yX9_patience, cX9_patience, 5, some .int, [], 8, 0, 0, zft_X9, none)
theorem cal_Model_patience : zCallee cf_Model_patience 1 := ⟨rfl, zc_yX9_patience, by decide, by decide, by decide +kernel⟩
def L_Model_patience_66 (c1 : Int) (c2 : Int) (K : ZMem → Option ZRes) : Nat → Int → ZMem → Option ZRes
  | 0, _, _ => none
  | n + 1, v4, μ => if w32 c2 ≤ w32 v4 then (K  μ) else (zC (F_Model_quarterGoes  μ) (zkV (fun μ9 => zLet (v4 + 1) (fun x11 => L_Model_patience_66 c1 c2 K n x11 μ9))) zX0)
set_option maxRecDepth 100000 in
theorem l_Model_patience_66 {c1 : Int} {c2 : Int} {K : ZMem → Option ZRes} (hK : ∀ (μ : ZMem), AW cf_Model_patience S_Model.length S_Model S_Model 82 [(0, zR (some 0)), (1, zI c1), (2, zI c2)] [] μ 0 0 (K μ)) : ∀ (n : Nat) (v4 : Int) (μ : ZMem), AW cf_Model_patience S_Model.length S_Model S_Model 66 [(0, zR (some 0)), (1, zI c1), (2, zI c2), (4, zI v4)] [] μ 0 0 (L_Model_patience_66 c1 c2 K n v4 μ) := by
  intro n
  induction n with
  | zero => intro v4 μ; exact AW.noth
  | succ n ih =>
    intro v4 μ
    rw [L_Model_patience_66]
    refine AW.iload (i := 4) (a := v4) (by decide +kernel) rfl (?_ : AW _ _ _ _ 68 _ _ _ _ _ _)
    refine AW.iload_n (i := 2) (a := c2) (by decide +kernel) rfl (?_ : AW _ _ _ _ 69 _ _ _ _ _ _)
    refine AW.icmp_ge (off := 13) (tgt := 82) (by decide +kernel) (by decide) (fun _ => ?_) (fun _ => ?_)
    · refine AW.sub (L' := [(0, zR (some 0)), (1, zI c1), (2, zI c2)]) [0, 1, 2] rfl ?_
      exact hK  μ
    · refine AW.aload_n (i := 0) (a := 0) (by decide +kernel) rfl (?_ : AW _ _ _ _ 73 _ _ _ _ _ _)
      refine AW.callVw (g := cf_Model_quarterGoes) (av := []) (b0 := 0) (ci := 9) (idx := 208) (n := 0) (st := []) (by decide +kernel) (fun l hl r hr => c_Model_quarterGoes l hl  _ r hr) S_Model_wf rfl cal_Model_quarterGoes rfl (zw4 zm_X9_208 zi_yX9_quarterGoes zs_yX9_quarterGoes zn_X9) rfl rfl ⟨by decide, by decide, by decide, by decide⟩ (Nat.le_of_ble_eq_true rfl) (Or.inl rfl) (fun v μ9 => AW.kV (?_ : AW _ _ _ _ 76 _ _ _ _ _ _) v)
      refine AW.iincL (i := 4) (n := 1) (a := v4) (L' := fun x11 => [(4, zI x11), (0, zR (some 0)), (1, zI c1), (2, zI c2)]) (by decide +kernel) rfl (by decide) (fun _ => rfl) (fun x11 => (?_ : AW _ _ _ _ 79 _ _ _ _ _ _))
      refine AW.goto (off := -13) (tgt := 66) (by decide +kernel) (by decide) ?_
      refine AW.sub (L' := [(0, zR (some 0)), (1, zI c1), (2, zI c2), (4, zI x11)]) [1, 2, 3, 0] rfl ?_
      exact ih x11 μ9
def J_Model_patience_119 (R : Int → Int → ZMem → Option ZRes) (K : Int → ZMem → Option ZRes) (c1 : Int) (u3 : Int) (y0 : Int) (y1 : Int) (μ : ZMem) : Option ZRes := zLet ((y1 - y0)) (fun x18 => R x18 u3 μ)
set_option maxRecDepth 100000 in
theorem j_Model_patience_119 {R : Int → Int → ZMem → Option ZRes} {K : Int → ZMem → Option ZRes} (c1 : Int) (hR : ∀ (v2 : Int) (v3 : Int) (μ : ZMem), AW cf_Model_patience S_Model.length S_Model S_Model 55 [(0, zR (some 0)), (1, zI c1), (2, zI v2), (3, zI v3)] [] μ 0 0 (R v2 v3 μ)) (hK : ∀ (k2 : Int) (μ : ZMem), AW cf_Model_patience S_Model.length S_Model S_Model 124 [(2, zI k2)] [] μ 0 0 (K k2 μ)) (u3 : Int) (y0 : Int) (y1 : Int) (μ : ZMem) : AW cf_Model_patience S_Model.length S_Model S_Model 119 [(0, zR (some 0)), (1, zI c1), (3, zI u3)] [zI y0, zI y1] μ 0 0 (J_Model_patience_119 R K c1 u3 y0 y1 μ) := by
  unfold J_Model_patience_119
  refine AW.isub (by decide +kernel) (?_ : AW _ _ _ _ 120 _ _ _ _ _ _)
  refine AW.istoreL_n (i := 2) (L' := fun x18 => [(2, zI x18), (0, zR (some 0)), (1, zI c1), (3, zI u3)]) (by decide +kernel) (by decide) (fun _ => rfl) (fun x18 => (?_ : AW _ _ _ _ 121 _ _ _ _ _ _))
  refine AW.goto (off := -66) (tgt := 55) (by decide +kernel) (by decide) ?_
  refine AW.sub (L' := [(0, zR (some 0)), (1, zI c1), (2, zI x18), (3, zI u3)]) [1, 2, 0, 3] rfl ?_
  exact hR x18 u3 μ
def J_Model_patience_104 (R : Int → Int → ZMem → Option ZRes) (K : Int → ZMem → Option ZRes) (c1 : Int) (u2 : Int) (y0 : Int) (μ : ZMem) : Option ZRes := zC (F_Model_comesBack  μ) (zkV (fun μ16 => if w32 y0 = 0 then (J_Model_patience_119 R K c1 y0 1 u2 μ16) else (J_Model_patience_119 R K c1 y0 0 u2 μ16))) zX0
set_option maxRecDepth 100000 in
theorem j_Model_patience_104 {R : Int → Int → ZMem → Option ZRes} {K : Int → ZMem → Option ZRes} (c1 : Int) (hR : ∀ (v2 : Int) (v3 : Int) (μ : ZMem), AW cf_Model_patience S_Model.length S_Model S_Model 55 [(0, zR (some 0)), (1, zI c1), (2, zI v2), (3, zI v3)] [] μ 0 0 (R v2 v3 μ)) (hK : ∀ (k2 : Int) (μ : ZMem), AW cf_Model_patience S_Model.length S_Model S_Model 124 [(2, zI k2)] [] μ 0 0 (K k2 μ)) (u2 : Int) (y0 : Int) (μ : ZMem) : AW cf_Model_patience S_Model.length S_Model S_Model 104 [(0, zR (some 0)), (1, zI c1), (2, zI u2)] [zI y0] μ 0 0 (J_Model_patience_104 R K c1 u2 y0 μ) := by
  unfold J_Model_patience_104
  refine AW.istore_n' (i := 3) (L' := [(3, zI y0), (0, zR (some 0)), (1, zI c1), (2, zI u2)]) (by decide +kernel) (by decide) rfl (?_ : AW _ _ _ _ 105 _ _ _ _ _ _)
  refine AW.aload_n (i := 0) (a := 0) (by decide +kernel) rfl (?_ : AW _ _ _ _ 106 _ _ _ _ _ _)
  refine AW.callVw (g := cf_Model_comesBack) (av := []) (b0 := 0) (ci := 9) (idx := 377) (n := 0) (st := []) (by decide +kernel) (fun l hl r hr => c_Model_comesBack l hl  _ r hr) S_Model_wf rfl cal_Model_comesBack rfl (zw4 zm_X9_377 zi_yX9_comesBack zs_yX9_comesBack zn_X9) rfl rfl ⟨by decide, by decide, by decide, by decide⟩ (Nat.le_of_ble_eq_true rfl) (Or.inl rfl) (fun v μ16 => AW.kV (?_ : AW _ _ _ _ 109 _ _ _ _ _ _) v)
  refine AW.iload_n (i := 2) (a := u2) (by decide +kernel) rfl (?_ : AW _ _ _ _ 110 _ _ _ _ _ _)
  refine AW.iload_n (i := 3) (a := y0) (by decide +kernel) rfl (?_ : AW _ _ _ _ 111 _ _ _ _ _ _)
  refine AW.if_eq (off := 7) (tgt := 118) (by decide +kernel) (by decide) (fun _ => ?_) (fun _ => ?_)
  · refine AW.iconst (n := 1) (by decide +kernel) (?_ : AW _ _ _ _ 119 _ _ _ _ _ _)
    refine AW.sub (L' := [(0, zR (some 0)), (1, zI c1), (3, zI y0)]) [1, 2, 0] rfl ?_
    exact j_Model_patience_119 c1 hR hK y0 1 u2 μ16
  · refine AW.iconst (n := 0) (by decide +kernel) (?_ : AW _ _ _ _ 115 _ _ _ _ _ _)
    refine AW.goto (off := 4) (tgt := 119) (by decide +kernel) (by decide) ?_
    refine AW.sub (L' := [(0, zR (some 0)), (1, zI c1), (3, zI y0)]) [1, 2, 0] rfl ?_
    exact j_Model_patience_119 c1 hR hK y0 0 u2 μ16
def L_Model_patience_55 (c1 : Int) (K : Int → ZMem → Option ZRes) : Nat → Int → Int → ZMem → Option ZRes
  | 0, _, _, _ => none
  | n + 1, v2, v3, μ => if w32 v2 < 0 then (K v2 μ) else (if w32 v3 = 0 then (L_Model_patience_66 c1 v2 (fun μ12 => zC (F_Model_sellsOut  μ12) (zkV (fun μ13 => zRd μ13 5 92 86 (fun x15 => if w64 x15 < w64 (w32 c1) then (J_Model_patience_104 (fun v2 v3 μ => L_Model_patience_55 c1 K n v2 v3 μ) K c1 v2 0 μ13) else (J_Model_patience_104 (fun v2 v3 μ => L_Model_patience_55 c1 K n v2 v3 μ) K c1 v2 1 μ13)))) zX0) zN 0 μ) else (K v2 μ))
set_option maxRecDepth 100000 in
theorem l_Model_patience_55 {c1 : Int} {K : Int → ZMem → Option ZRes} (hK : ∀ (k2 : Int) (μ : ZMem), AW cf_Model_patience S_Model.length S_Model S_Model 124 [(2, zI k2)] [] μ 0 0 (K k2 μ)) : ∀ (n : Nat) (v2 : Int) (v3 : Int) (μ : ZMem), AW cf_Model_patience S_Model.length S_Model S_Model 55 [(0, zR (some 0)), (1, zI c1), (2, zI v2), (3, zI v3)] [] μ 0 0 (L_Model_patience_55 c1 K n v2 v3 μ) := by
  intro n
  induction n with
  | zero => intro v2 v3 μ; exact AW.noth
  | succ n ih =>
    intro v2 v3 μ
    rw [L_Model_patience_55]
    refine AW.iload_n (i := 2) (a := v2) (by decide +kernel) rfl (?_ : AW _ _ _ _ 56 _ _ _ _ _ _)
    refine AW.if_lt (off := 68) (tgt := 124) (by decide +kernel) (by decide) (fun _ => ?_) (fun _ => ?_)
    · refine AW.sub (L' := [(2, zI v2)]) [2] rfl ?_
      exact hK v2 μ
    · refine AW.iload_n (i := 3) (a := v3) (by decide +kernel) rfl (?_ : AW _ _ _ _ 60 _ _ _ _ _ _)
      refine AW.if_ne (off := 64) (tgt := 124) (by decide +kernel) (by decide) (fun _ => ?_) (fun _ => ?_)
      · refine AW.iconst (n := 0) (by decide +kernel) (?_ : AW _ _ _ _ 64 _ _ _ _ _ _)
        refine AW.istore' (i := 4) (L' := [(4, zI 0), (0, zR (some 0)), (1, zI c1), (2, zI v2), (3, zI v3)]) (by decide +kernel) (by decide) rfl (?_ : AW _ _ _ _ 66 _ _ _ _ _ _)
        refine AW.sub (L' := [(0, zR (some 0)), (1, zI c1), (2, zI v2), (4, zI 0)]) [1, 2, 3, 0] rfl ?_
        refine l_Model_patience_66 (fun μ12 => ?_) zN _ _
        refine AW.aload_n (i := 0) (a := 0) (by decide +kernel) rfl (?_ : AW _ _ _ _ 83 _ _ _ _ _ _)
        refine AW.callVw (g := cf_Model_sellsOut) (av := []) (b0 := 0) (ci := 9) (idx := 387) (n := 0) (st := []) (by decide +kernel) (fun l hl r hr => c_Model_sellsOut l hl  _ r hr) S_Model_wf rfl cal_Model_sellsOut rfl (zw4 zm_X9_387 zi_yX9_sellsOut zs_yX9_sellsOut zn_X9) rfl rfl ⟨by decide, by decide, by decide, by decide⟩ (Nat.le_of_ble_eq_true rfl) (Or.inl rfl) (fun v μ13 => AW.kV (?_ : AW _ _ _ _ 86 _ _ _ _ _ _) v)
        refine AW.aload_n (i := 0) (a := 0) (by decide +kernel) rfl (?_ : AW _ _ _ _ 87 _ _ _ _ _ _)
        refine AW.getR (idx := 22) (ci := 9) (k := 7) (r := 0) (by decide +kernel) rfl rfl rfl (?_ : AW _ _ _ _ 90 _ _ _ _ _ _)
        refine AW.bipush (n := 86) (by decide +kernel) (by decide +kernel) (?_ : AW _ _ _ _ 92 _ _ _ _ _ _)
        refine AW.lald (r := 5) (by decide +kernel) rfl (fun x15 => (?_ : AW _ _ _ _ 93 _ _ _ _ _ _))
        refine AW.iload_n (i := 1) (a := c1) (by decide +kernel) rfl (?_ : AW _ _ _ _ 94 _ _ _ _ _ _)
        refine AW.i2l (by decide +kernel) (?_ : AW _ _ _ _ 95 _ _ _ _ _ _)
        refine AW.lcmp_lt (off := 7) (tgt := 103) (by decide +kernel) (by decide +kernel) (by decide) (fun _ => ?_) (fun _ => ?_)
        · refine AW.iconst (n := 0) (by decide +kernel) (?_ : AW _ _ _ _ 104 _ _ _ _ _ _)
          exact j_Model_patience_104 c1 ih hK v2 0 μ13
        · refine AW.iconst (n := 1) (by decide +kernel) (?_ : AW _ _ _ _ 100 _ _ _ _ _ _)
          refine AW.goto (off := 4) (tgt := 104) (by decide +kernel) (by decide) ?_
          exact j_Model_patience_104 c1 ih hK v2 1 μ13
      · refine AW.sub (L' := [(2, zI v2)]) [2] rfl ?_
        exact hK v2 μ
def J_Model_patience_18 (a1 : Int) (y0 : Int) (μ : ZMem) : Option ZRes := zLet (zUp μ 0 0 y0) (fun μ3 => if w32 (μ3 0 0) ≤ 0 then (zC (F_Model_putsAside  μ3) (zkV (fun μ4 => zRd μ4 5 92 90 (fun x6 => zC (F_Model_lesser 60 (200 - x6) μ4) (zkJ (fun x8 _ => L_Model_patience_55 a1 (fun k20 μ19 => some (.inr (some (zI k20)), μ19)) zN x8 0 μ4)) zX0))) zX0) else (some (.inr (some (zI 0)), μ3)))
set_option maxRecDepth 100000 in
theorem j_Model_patience_18 (a1 : Int) (y0 : Int) (μ : ZMem) : AW cf_Model_patience S_Model.length S_Model S_Model 18 [(0, zR (some 0)), (1, zI a1)] [zI y0, zR (some 0)] μ 0 0 (J_Model_patience_18 a1 y0 μ) := by
  unfold J_Model_patience_18
  refine AW.putiL (idx := 93) (ci := 9) (k := 0) (r := 0) (by decide +kernel) rfl rfl rfl (fun μ3 => (?_ : AW _ _ _ _ 21 _ _ _ _ _ _))
  refine AW.aload_n (i := 0) (a := 0) (by decide +kernel) rfl (?_ : AW _ _ _ _ 22 _ _ _ _ _ _)
  refine AW.getI (idx := 93) (ci := 9) (k := 0) (r := 0) (by decide +kernel) rfl rfl rfl (?_ : AW _ _ _ _ 25 _ _ _ _ _ _)
  refine AW.if_le (off := 5) (tgt := 30) (by decide +kernel) (by decide) (fun _ => ?_) (fun _ => ?_)
  · refine AW.aload_n (i := 0) (a := 0) (by decide +kernel) rfl (?_ : AW _ _ _ _ 31 _ _ _ _ _ _)
    refine AW.callVw (g := cf_Model_putsAside) (av := []) (b0 := 0) (ci := 9) (idx := 370) (n := 0) (st := []) (by decide +kernel) (fun l hl r hr => c_Model_putsAside l hl  _ r hr) S_Model_wf rfl cal_Model_putsAside rfl (zw4 zm_X9_370 zi_yX9_putsAside zs_yX9_putsAside zn_X9) rfl rfl ⟨by decide, by decide, by decide, by decide⟩ (Nat.le_of_ble_eq_true rfl) (Or.inl rfl) (fun v μ4 => AW.kV (?_ : AW _ _ _ _ 34 _ _ _ _ _ _) v)
    refine AW.ldc2 (idx := 366) (v := 60) (by decide +kernel) zk_X9_366 (?_ : AW _ _ _ _ 37 _ _ _ _ _ _)
    refine AW.ldc2 (idx := 220) (v := 200) (by decide +kernel) zk_X9_220 (?_ : AW _ _ _ _ 40 _ _ _ _ _ _)
    refine AW.aload_n (i := 0) (a := 0) (by decide +kernel) rfl (?_ : AW _ _ _ _ 41 _ _ _ _ _ _)
    refine AW.getR (idx := 22) (ci := 9) (k := 7) (r := 0) (by decide +kernel) rfl rfl rfl (?_ : AW _ _ _ _ 44 _ _ _ _ _ _)
    refine AW.bipush (n := 90) (by decide +kernel) (by decide +kernel) (?_ : AW _ _ _ _ 46 _ _ _ _ _ _)
    refine AW.lald (r := 5) (by decide +kernel) rfl (fun x6 => (?_ : AW _ _ _ _ 47 _ _ _ _ _ _))
    refine AW.lsub (by decide +kernel) (?_ : AW _ _ _ _ 48 _ _ _ _ _ _)
    refine AW.callP (g := cf_Model_lesser) (av := [zJ 60, zJ (200 - x6)]) (idx := 144) (n := 2) (st := []) (by decide +kernel) (fun l hl r hr => c_Model_lesser l hl 60 (200 - x6) _ r hr) rfl cal_Model_lesser rfl (zw3 zm_X9_144 zt_yX9_lesser zn_X9) ⟨by decide, by decide, by decide, by decide⟩ (Nat.le_of_ble_eq_true rfl) (fun v _ => AW.kJ (fun x8 => (?_ : AW _ _ _ _ 51 _ _ _ _ _ _)) v)
    refine AW.l2i (by decide +kernel) (?_ : AW _ _ _ _ 52 _ _ _ _ _ _)
    refine AW.istore_n' (i := 2) (L' := [(2, zI x8), (0, zR (some 0)), (1, zI a1)]) (by decide +kernel) (by decide) rfl (?_ : AW _ _ _ _ 53 _ _ _ _ _ _)
    refine AW.iconst (n := 0) (by decide +kernel) (?_ : AW _ _ _ _ 54 _ _ _ _ _ _)
    refine AW.istore_n' (i := 3) (L' := [(3, zI 0), (2, zI x8), (0, zR (some 0)), (1, zI a1)]) (by decide +kernel) (by decide) rfl (?_ : AW _ _ _ _ 55 _ _ _ _ _ _)
    refine AW.sub (L' := [(0, zR (some 0)), (1, zI a1), (2, zI x8), (3, zI 0)]) [2, 3, 1, 0] rfl ?_
    refine l_Model_patience_55 (fun k20 μ19 => ?_) zN _ _ _
    refine AW.iload_n (i := 2) (a := k20) (by decide +kernel) rfl (?_ : AW _ _ _ _ 125 _ _ _ _ _ _)
    exact AW.reti (by decide +kernel) rfl (by decide) (by decide)
  · refine AW.iconst (n := 0) (by decide +kernel) (?_ : AW _ _ _ _ 29 _ _ _ _ _ _)
    exact AW.reti (by decide +kernel) rfl (by decide) (by decide)
def F_Model_patience (a1 : Int) (μ : ZMem) : Option ZRes := zC (F_Model_isIn (w32 a1) 0 99999 μ) (zkI (fun x2 _ => if w32 x2 = 0 then (J_Model_patience_18 a1 1 μ) else (J_Model_patience_18 a1 0 μ))) zX0
set_option maxRecDepth 100000 in
theorem w_Model_patience (a1 : Int) (μ : ZMem) : AW cf_Model_patience S_Model.length S_Model S_Model 0 [(0, zR (some 0)), (1, zI a1)] [] μ 0 0 (F_Model_patience a1 μ) := by
  unfold F_Model_patience
  refine AW.aload_n (i := 0) (a := 0) (by decide +kernel) rfl (?_ : AW _ _ _ _ 1 _ _ _ _ _ _)
  refine AW.iload_n (i := 1) (a := a1) (by decide +kernel) rfl (?_ : AW _ _ _ _ 2 _ _ _ _ _ _)
  refine AW.i2l (by decide +kernel) (?_ : AW _ _ _ _ 3 _ _ _ _ _ _)
  refine AW.lconst0 (by decide +kernel) (?_ : AW _ _ _ _ 4 _ _ _ _ _ _)
  refine AW.ldc2 (idx := 368) (v := 99999) (by decide +kernel) zk_X9_368 (?_ : AW _ _ _ _ 7 _ _ _ _ _ _)
  refine AW.callP (g := cf_Model_isIn) (av := [zJ (w32 a1), zJ 0, zJ 99999]) (idx := 99) (n := 3) (st := [zR (some 0)]) (by decide +kernel) (fun l hl r hr => c_Model_isIn l hl (w32 a1) 0 99999 _ r hr) rfl cal_Model_isIn rfl (zw3 zm_X9_99 zt_yX9_isIn zn_X9) ⟨by decide, by decide, by decide, by decide⟩ (Nat.le_of_ble_eq_true rfl) (fun v _ => AW.kI (fun x2 => (?_ : AW _ _ _ _ 10 _ _ _ _ _ _)) v)
  refine AW.if_eq (off := 7) (tgt := 17) (by decide +kernel) (by decide) (fun _ => ?_) (fun _ => ?_)
  · refine AW.iconst (n := 1) (by decide +kernel) (?_ : AW _ _ _ _ 18 _ _ _ _ _ _)
    exact j_Model_patience_18 a1 1 μ
  · refine AW.iconst (n := 0) (by decide +kernel) (?_ : AW _ _ _ _ 14 _ _ _ _ _ _)
    refine AW.goto (off := 4) (tgt := 18) (by decide +kernel) (by decide) ?_
    exact j_Model_patience_18 a1 0 μ
theorem c_Model_patience (l : Launch) (hl : l.stackTraces = false) (a1 : Int) (μ : ZMem) (r : ZRes) (h : F_Model_patience a1 μ = some r) : ZC l cf_Model_patience S_Model S_Model [zR (some 0), zI a1] μ r := ZC.of hl (by decide +kernel) rfl rfl zft_X9_ok (Nat.le_of_ble_eq_true rfl) h (w_Model_patience a1 μ)
/-! WeirLedgerModel.gainOf(I)J -/
def cf_Model_gainOf : ZCf := (yX9_gainOf, cX9_gainOf, 2, some .long, [], 3, 0, 0, zft_X9, none)
theorem cal_Model_gainOf : zCallee cf_Model_gainOf 1 := ⟨rfl, zc_yX9_gainOf, by decide, by decide, by decide +kernel⟩
def F_Model_gainOf (a1 : Int) (μ : ZMem) : Option ZRes := zC (F_Model_dealAt a1 1 μ) (zkI (fun x2 _ => zRd μ 5 92 x2 (fun x3 => zC (F_Model_dealAt a1 0 μ) (zkI (fun x5 _ => zRd μ 5 92 x5 (fun x6 => some (.inr (some (zJ (x3 - x6))), μ)))) zX0))) zX0
set_option maxRecDepth 100000 in
theorem w_Model_gainOf (a1 : Int) (μ : ZMem) : AW cf_Model_gainOf S_Model.length S_Model S_Model 0 [(0, zR (some 0)), (1, zI a1)] [] μ 0 0 (F_Model_gainOf a1 μ) := by
  unfold F_Model_gainOf
  refine AW.aload_n (i := 0) (a := 0) (by decide +kernel) rfl (?_ : AW _ _ _ _ 1 _ _ _ _ _ _)
  refine AW.getR (idx := 22) (ci := 9) (k := 7) (r := 0) (by decide +kernel) rfl rfl rfl (?_ : AW _ _ _ _ 4 _ _ _ _ _ _)
  refine AW.iload_n (i := 1) (a := a1) (by decide +kernel) rfl (?_ : AW _ _ _ _ 5 _ _ _ _ _ _)
  refine AW.iconst (n := 1) (by decide +kernel) (?_ : AW _ _ _ _ 6 _ _ _ _ _ _)
  refine AW.callP (g := cf_Model_dealAt) (av := [zI a1, zI 1]) (idx := 166) (n := 2) (st := [zR (some 5)]) (by decide +kernel) (fun l hl r hr => c_Model_dealAt l hl a1 1 _ r hr) rfl cal_Model_dealAt rfl (zw3 zm_X9_166 zt_yX9_dealAt zn_X9) ⟨by decide, by decide, by decide, by decide⟩ (Nat.le_of_ble_eq_true rfl) (fun v _ => AW.kI (fun x2 => (?_ : AW _ _ _ _ 9 _ _ _ _ _ _)) v)
  refine AW.lald (r := 5) (by decide +kernel) rfl (fun x3 => (?_ : AW _ _ _ _ 10 _ _ _ _ _ _))
  refine AW.aload_n (i := 0) (a := 0) (by decide +kernel) rfl (?_ : AW _ _ _ _ 11 _ _ _ _ _ _)
  refine AW.getR (idx := 22) (ci := 9) (k := 7) (r := 0) (by decide +kernel) rfl rfl rfl (?_ : AW _ _ _ _ 14 _ _ _ _ _ _)
  refine AW.iload_n (i := 1) (a := a1) (by decide +kernel) rfl (?_ : AW _ _ _ _ 15 _ _ _ _ _ _)
  refine AW.iconst (n := 0) (by decide +kernel) (?_ : AW _ _ _ _ 16 _ _ _ _ _ _)
  refine AW.callP (g := cf_Model_dealAt) (av := [zI a1, zI 0]) (idx := 166) (n := 2) (st := [zR (some 5), zJ x3]) (by decide +kernel) (fun l hl r hr => c_Model_dealAt l hl a1 0 _ r hr) rfl cal_Model_dealAt rfl (zw3 zm_X9_166 zt_yX9_dealAt zn_X9) ⟨by decide, by decide, by decide, by decide⟩ (Nat.le_of_ble_eq_true rfl) (fun v _ => AW.kI (fun x5 => (?_ : AW _ _ _ _ 19 _ _ _ _ _ _)) v)
  refine AW.lald (r := 5) (by decide +kernel) rfl (fun x6 => (?_ : AW _ _ _ _ 20 _ _ _ _ _ _))
  refine AW.lsub (by decide +kernel) (?_ : AW _ _ _ _ 21 _ _ _ _ _ _)
  exact AW.retl (by decide +kernel) rfl (by decide) (by decide)
theorem c_Model_gainOf (l : Launch) (hl : l.stackTraces = false) (a1 : Int) (μ : ZMem) (r : ZRes) (h : F_Model_gainOf a1 μ = some r) : ZC l cf_Model_gainOf S_Model S_Model [zR (some 0), zI a1] μ r := ZC.of hl (by decide +kernel) rfl rfl zft_X9_ok (Nat.le_of_ble_eq_true rfl) h (w_Model_gainOf a1 μ)
/-! WeirLedgerModel.deals(I)I -/
def cf_Model_deals : ZCf := (yX9_deals, cX9_deals, 5, some .int, [], 4, 0, 0, zft_X9, none)
theorem cal_Model_deals : zCallee cf_Model_deals 1 := ⟨rfl, zc_yX9_deals, by decide, by decide, by decide +kernel⟩
def J_Model_deals_120 (R : Int → Int → Int → ZMem → Option ZRes) (K : Int → Int → ZMem → Option ZRes) (c1 : Int) (u2 : Int) (u3 : Int) (u4 : Int) (μ : ZMem) : Option ZRes := zLet (u4 + 1) (fun x8 => R u2 u3 x8 μ)
set_option maxRecDepth 100000 in
theorem j_Model_deals_120 {R : Int → Int → Int → ZMem → Option ZRes} {K : Int → Int → ZMem → Option ZRes} (c1 : Int) (hR : ∀ (v2 : Int) (v3 : Int) (v4 : Int) (μ : ZMem), AW cf_Model_deals S_Model.length S_Model S_Model 37 [(0, zR (some 0)), (1, zI c1), (2, zI v2), (3, zI v3), (4, zI v4)] [] μ 0 0 (R v2 v3 v4 μ)) (hK : ∀ (k2 : Int) (k3 : Int) (μ : ZMem), AW cf_Model_deals S_Model.length S_Model S_Model 126 [(1, zI c1), (2, zI k2), (3, zI k3)] [] μ 0 0 (K k2 k3 μ)) (u2 : Int) (u3 : Int) (u4 : Int) (μ : ZMem) : AW cf_Model_deals S_Model.length S_Model S_Model 120 [(0, zR (some 0)), (1, zI c1), (2, zI u2), (3, zI u3), (4, zI u4)] [] μ 0 0 (J_Model_deals_120 R K c1 u2 u3 u4 μ) := by
  unfold J_Model_deals_120
  refine AW.iincL (i := 4) (n := 1) (a := u4) (L' := fun x8 => [(4, zI x8), (0, zR (some 0)), (1, zI c1), (2, zI u2), (3, zI u3)]) (by decide +kernel) rfl (by decide) (fun _ => rfl) (fun x8 => (?_ : AW _ _ _ _ 123 _ _ _ _ _ _))
  refine AW.goto (off := -86) (tgt := 37) (by decide +kernel) (by decide) ?_
  refine AW.sub (L' := [(0, zR (some 0)), (1, zI c1), (2, zI u2), (3, zI u3), (4, zI x8)]) [1, 2, 3, 4, 0] rfl ?_
  exact hR u2 u3 x8 μ
def J_Model_deals_117 (R : Int → Int → Int → ZMem → Option ZRes) (K : Int → Int → ZMem → Option ZRes) (c1 : Int) (u3 : Int) (u4 : Int) (μ : ZMem) : Option ZRes := J_Model_deals_120 R K c1 u4 u3 u4 μ
set_option maxRecDepth 100000 in
theorem j_Model_deals_117 {R : Int → Int → Int → ZMem → Option ZRes} {K : Int → Int → ZMem → Option ZRes} (c1 : Int) (hR : ∀ (v2 : Int) (v3 : Int) (v4 : Int) (μ : ZMem), AW cf_Model_deals S_Model.length S_Model S_Model 37 [(0, zR (some 0)), (1, zI c1), (2, zI v2), (3, zI v3), (4, zI v4)] [] μ 0 0 (R v2 v3 v4 μ)) (hK : ∀ (k2 : Int) (k3 : Int) (μ : ZMem), AW cf_Model_deals S_Model.length S_Model S_Model 126 [(1, zI c1), (2, zI k2), (3, zI k3)] [] μ 0 0 (K k2 k3 μ)) (u3 : Int) (u4 : Int) (μ : ZMem) : AW cf_Model_deals S_Model.length S_Model S_Model 117 [(0, zR (some 0)), (1, zI c1), (3, zI u3), (4, zI u4)] [] μ 0 0 (J_Model_deals_117 R K c1 u3 u4 μ) := by
  unfold J_Model_deals_117
  refine AW.iload (i := 4) (a := u4) (by decide +kernel) rfl (?_ : AW _ _ _ _ 119 _ _ _ _ _ _)
  refine AW.istore_n' (i := 2) (L' := [(2, zI u4), (0, zR (some 0)), (1, zI c1), (3, zI u3), (4, zI u4)]) (by decide +kernel) (by decide) rfl (?_ : AW _ _ _ _ 120 _ _ _ _ _ _)
  refine AW.sub (L' := [(0, zR (some 0)), (1, zI c1), (2, zI u4), (3, zI u3), (4, zI u4)]) [1, 2, 0, 3, 4] rfl ?_
  exact j_Model_deals_120 c1 hR hK u4 u3 u4 μ
def J_Model_deals_97 (R : Int → Int → Int → ZMem → Option ZRes) (K : Int → Int → ZMem → Option ZRes) (c1 : Int) (u2 : Int) (u3 : Int) (u4 : Int) (μ : ZMem) : Option ZRes := if w32 c1 = w32 1 then (zC (F_Model_gainOf u4 μ) (zkJ (fun x14 μ13 => zC (F_Model_gainOf u2 μ13) (zkJ (fun x16 μ15 => if w64 x16 ≤ w64 x14 then (J_Model_deals_120 R K c1 u2 u3 u4 μ15) else (J_Model_deals_117 R K c1 u3 u4 μ15))) zX0)) zX0) else (J_Model_deals_120 R K c1 u2 u3 u4 μ)
set_option maxRecDepth 100000 in
theorem j_Model_deals_97 {R : Int → Int → Int → ZMem → Option ZRes} {K : Int → Int → ZMem → Option ZRes} (c1 : Int) (hR : ∀ (v2 : Int) (v3 : Int) (v4 : Int) (μ : ZMem), AW cf_Model_deals S_Model.length S_Model S_Model 37 [(0, zR (some 0)), (1, zI c1), (2, zI v2), (3, zI v3), (4, zI v4)] [] μ 0 0 (R v2 v3 v4 μ)) (hK : ∀ (k2 : Int) (k3 : Int) (μ : ZMem), AW cf_Model_deals S_Model.length S_Model S_Model 126 [(1, zI c1), (2, zI k2), (3, zI k3)] [] μ 0 0 (K k2 k3 μ)) (u2 : Int) (u3 : Int) (u4 : Int) (μ : ZMem) : AW cf_Model_deals S_Model.length S_Model S_Model 97 [(0, zR (some 0)), (1, zI c1), (2, zI u2), (3, zI u3), (4, zI u4)] [] μ 0 0 (J_Model_deals_97 R K c1 u2 u3 u4 μ) := by
  unfold J_Model_deals_97
  refine AW.iload_n (i := 1) (a := c1) (by decide +kernel) rfl (?_ : AW _ _ _ _ 98 _ _ _ _ _ _)
  refine AW.iconst (n := 1) (by decide +kernel) (?_ : AW _ _ _ _ 99 _ _ _ _ _ _)
  refine AW.icmp_ne (off := 21) (tgt := 120) (by decide +kernel) (by decide) (fun _ => ?_) (fun _ => ?_)
  · refine AW.aload_n (i := 0) (a := 0) (by decide +kernel) rfl (?_ : AW _ _ _ _ 103 _ _ _ _ _ _)
    refine AW.iload (i := 4) (a := u4) (by decide +kernel) rfl (?_ : AW _ _ _ _ 105 _ _ _ _ _ _)
    refine AW.callVw (g := cf_Model_gainOf) (av := [zI u4]) (b0 := 0) (ci := 9) (idx := 423) (n := 1) (st := []) (by decide +kernel) (fun l hl r hr => c_Model_gainOf l hl u4 _ r hr) S_Model_wf rfl cal_Model_gainOf rfl (zw4 zm_X9_423 zi_yX9_gainOf zs_yX9_gainOf zn_X9) rfl rfl ⟨by decide, by decide, by decide, by decide⟩ (Nat.le_of_ble_eq_true rfl) (Or.inl rfl) (fun v μ13 => AW.kJ (fun x14 => (?_ : AW _ _ _ _ 108 _ _ _ _ _ _)) v)
    refine AW.aload_n (i := 0) (a := 0) (by decide +kernel) rfl (?_ : AW _ _ _ _ 109 _ _ _ _ _ _)
    refine AW.iload_n (i := 2) (a := u2) (by decide +kernel) rfl (?_ : AW _ _ _ _ 110 _ _ _ _ _ _)
    refine AW.callVw (g := cf_Model_gainOf) (av := [zI u2]) (b0 := 0) (ci := 9) (idx := 423) (n := 1) (st := [zJ x14]) (by decide +kernel) (fun l hl r hr => c_Model_gainOf l hl u2 _ r hr) S_Model_wf rfl cal_Model_gainOf rfl (zw4 zm_X9_423 zi_yX9_gainOf zs_yX9_gainOf zn_X9) rfl rfl ⟨by decide, by decide, by decide, by decide⟩ (Nat.le_of_ble_eq_true rfl) (Or.inl rfl) (fun v μ15 => AW.kJ (fun x16 => (?_ : AW _ _ _ _ 113 _ _ _ _ _ _)) v)
    refine AW.lcmp_ge (off := 6) (tgt := 120) (by decide +kernel) (by decide +kernel) (by decide) (fun _ => ?_) (fun _ => ?_)
    · exact j_Model_deals_120 c1 hR hK u2 u3 u4 μ15
    · refine AW.sub (L' := [(0, zR (some 0)), (1, zI c1), (3, zI u3), (4, zI u4)]) [0, 1, 3, 4] rfl ?_
      exact j_Model_deals_117 c1 hR hK u3 u4 μ15
  · exact j_Model_deals_120 c1 hR hK u2 u3 u4 μ
def J_Model_deals_71 (R : Int → Int → Int → ZMem → Option ZRes) (K : Int → Int → ZMem → Option ZRes) (c1 : Int) (u2 : Int) (u4 : Int) (y0 : Int) (y1 : Int) (μ : ZMem) : Option ZRes := zLet ((zor y1 y0)) (fun x7 => if w32 u2 = w32 (-1) then (J_Model_deals_117 R K c1 x7 u4 μ) else (if w32 c1 = 0 then (zC (F_Model_gainOf u4 μ) (zkJ (fun x10 μ9 => zC (F_Model_gainOf u2 μ9) (zkJ (fun x12 μ11 => if w64 x12 < w64 x10 then (J_Model_deals_117 R K c1 x7 u4 μ11) else (J_Model_deals_97 R K c1 u2 x7 u4 μ11))) zX0)) zX0) else (J_Model_deals_97 R K c1 u2 x7 u4 μ)))
set_option maxRecDepth 100000 in
theorem j_Model_deals_71 {R : Int → Int → Int → ZMem → Option ZRes} {K : Int → Int → ZMem → Option ZRes} (c1 : Int) (hR : ∀ (v2 : Int) (v3 : Int) (v4 : Int) (μ : ZMem), AW cf_Model_deals S_Model.length S_Model S_Model 37 [(0, zR (some 0)), (1, zI c1), (2, zI v2), (3, zI v3), (4, zI v4)] [] μ 0 0 (R v2 v3 v4 μ)) (hK : ∀ (k2 : Int) (k3 : Int) (μ : ZMem), AW cf_Model_deals S_Model.length S_Model S_Model 126 [(1, zI c1), (2, zI k2), (3, zI k3)] [] μ 0 0 (K k2 k3 μ)) (u2 : Int) (u4 : Int) (y0 : Int) (y1 : Int) (μ : ZMem) : AW cf_Model_deals S_Model.length S_Model S_Model 71 [(0, zR (some 0)), (1, zI c1), (2, zI u2), (4, zI u4)] [zI y0, zI y1] μ 0 0 (J_Model_deals_71 R K c1 u2 u4 y0 y1 μ) := by
  unfold J_Model_deals_71
  refine AW.ior (by decide +kernel) (?_ : AW _ _ _ _ 72 _ _ _ _ _ _)
  refine AW.istoreL_n (i := 3) (L' := fun x7 => [(3, zI x7), (0, zR (some 0)), (1, zI c1), (2, zI u2), (4, zI u4)]) (by decide +kernel) (by decide) (fun _ => rfl) (fun x7 => (?_ : AW _ _ _ _ 73 _ _ _ _ _ _))
  refine AW.iload_n (i := 2) (a := u2) (by decide +kernel) rfl (?_ : AW _ _ _ _ 74 _ _ _ _ _ _)
  refine AW.iconst (n := -1) (by decide +kernel) (?_ : AW _ _ _ _ 75 _ _ _ _ _ _)
  refine AW.icmp_eq (off := 42) (tgt := 117) (by decide +kernel) (by decide) (fun _ => ?_) (fun _ => ?_)
  · refine AW.sub (L' := [(0, zR (some 0)), (1, zI c1), (3, zI x7), (4, zI u4)]) [1, 2, 0, 4] rfl ?_
    exact j_Model_deals_117 c1 hR hK x7 u4 μ
  · refine AW.iload_n (i := 1) (a := c1) (by decide +kernel) rfl (?_ : AW _ _ _ _ 79 _ _ _ _ _ _)
    refine AW.if_ne (off := 18) (tgt := 97) (by decide +kernel) (by decide) (fun _ => ?_) (fun _ => ?_)
    · refine AW.aload_n (i := 0) (a := 0) (by decide +kernel) rfl (?_ : AW _ _ _ _ 83 _ _ _ _ _ _)
      refine AW.iload (i := 4) (a := u4) (by decide +kernel) rfl (?_ : AW _ _ _ _ 85 _ _ _ _ _ _)
      refine AW.callVw (g := cf_Model_gainOf) (av := [zI u4]) (b0 := 0) (ci := 9) (idx := 423) (n := 1) (st := []) (by decide +kernel) (fun l hl r hr => c_Model_gainOf l hl u4 _ r hr) S_Model_wf rfl cal_Model_gainOf rfl (zw4 zm_X9_423 zi_yX9_gainOf zs_yX9_gainOf zn_X9) rfl rfl ⟨by decide, by decide, by decide, by decide⟩ (Nat.le_of_ble_eq_true rfl) (Or.inl rfl) (fun v μ9 => AW.kJ (fun x10 => (?_ : AW _ _ _ _ 88 _ _ _ _ _ _)) v)
      refine AW.aload_n (i := 0) (a := 0) (by decide +kernel) rfl (?_ : AW _ _ _ _ 89 _ _ _ _ _ _)
      refine AW.iload_n (i := 2) (a := u2) (by decide +kernel) rfl (?_ : AW _ _ _ _ 90 _ _ _ _ _ _)
      refine AW.callVw (g := cf_Model_gainOf) (av := [zI u2]) (b0 := 0) (ci := 9) (idx := 423) (n := 1) (st := [zJ x10]) (by decide +kernel) (fun l hl r hr => c_Model_gainOf l hl u2 _ r hr) S_Model_wf rfl cal_Model_gainOf rfl (zw4 zm_X9_423 zi_yX9_gainOf zs_yX9_gainOf zn_X9) rfl rfl ⟨by decide, by decide, by decide, by decide⟩ (Nat.le_of_ble_eq_true rfl) (Or.inl rfl) (fun v μ11 => AW.kJ (fun x12 => (?_ : AW _ _ _ _ 93 _ _ _ _ _ _)) v)
      refine AW.lcmp_gt (off := 23) (tgt := 117) (by decide +kernel) (by decide +kernel) (by decide) (fun _ => ?_) (fun _ => ?_)
      · refine AW.sub (L' := [(0, zR (some 0)), (1, zI c1), (3, zI x7), (4, zI u4)]) [1, 2, 0, 4] rfl ?_
        exact j_Model_deals_117 c1 hR hK x7 u4 μ11
      · refine AW.sub (L' := [(0, zR (some 0)), (1, zI c1), (2, zI u2), (3, zI x7), (4, zI u4)]) [1, 2, 3, 0, 4] rfl ?_
        exact j_Model_deals_97 c1 hR hK u2 x7 u4 μ11
    · refine AW.sub (L' := [(0, zR (some 0)), (1, zI c1), (2, zI u2), (3, zI x7), (4, zI u4)]) [1, 2, 3, 0, 4] rfl ?_
      exact j_Model_deals_97 c1 hR hK u2 x7 u4 μ
def L_Model_deals_37 (c1 : Int) (K : Int → Int → ZMem → Option ZRes) : Nat → Int → Int → Int → ZMem → Option ZRes
  | 0, _, _, _, _ => none
  | n + 1, v2, v3, v4, μ => if w32 (μ 0 6) ≤ w32 v4 then (K v2 v3 μ) else (zC (F_Model_dealAt v4 3 μ) (zkI (fun x5 _ => zRd μ 5 92 x5 (fun x6 => if w64 x6 = w64 0 then (J_Model_deals_71 (fun v2 v3 v4 μ => L_Model_deals_37 c1 K n v2 v3 v4 μ) K c1 v2 v4 (zshl 1 v4) v3 μ) else (J_Model_deals_71 (fun v2 v3 v4 μ => L_Model_deals_37 c1 K n v2 v3 v4 μ) K c1 v2 v4 0 v3 μ)))) zX0)
set_option maxRecDepth 100000 in
theorem l_Model_deals_37 {c1 : Int} {K : Int → Int → ZMem → Option ZRes} (hK : ∀ (k2 : Int) (k3 : Int) (μ : ZMem), AW cf_Model_deals S_Model.length S_Model S_Model 126 [(1, zI c1), (2, zI k2), (3, zI k3)] [] μ 0 0 (K k2 k3 μ)) : ∀ (n : Nat) (v2 : Int) (v3 : Int) (v4 : Int) (μ : ZMem), AW cf_Model_deals S_Model.length S_Model S_Model 37 [(0, zR (some 0)), (1, zI c1), (2, zI v2), (3, zI v3), (4, zI v4)] [] μ 0 0 (L_Model_deals_37 c1 K n v2 v3 v4 μ) := by
  intro n
  induction n with
  | zero => intro v2 v3 v4 μ; exact AW.noth
  | succ n ih =>
    intro v2 v3 v4 μ
    rw [L_Model_deals_37]
    refine AW.iload (i := 4) (a := v4) (by decide +kernel) rfl (?_ : AW _ _ _ _ 39 _ _ _ _ _ _)
    refine AW.aload_n (i := 0) (a := 0) (by decide +kernel) rfl (?_ : AW _ _ _ _ 40 _ _ _ _ _ _)
    refine AW.getI (idx := 103) (ci := 9) (k := 6) (r := 0) (by decide +kernel) rfl rfl rfl (?_ : AW _ _ _ _ 43 _ _ _ _ _ _)
    refine AW.icmp_ge (off := 83) (tgt := 126) (by decide +kernel) (by decide) (fun _ => ?_) (fun _ => ?_)
    · refine AW.sub (L' := [(1, zI c1), (2, zI v2), (3, zI v3)]) [1, 2, 3] rfl ?_
      exact hK v2 v3 μ
    · refine AW.iload_n (i := 3) (a := v3) (by decide +kernel) rfl (?_ : AW _ _ _ _ 47 _ _ _ _ _ _)
      refine AW.aload_n (i := 0) (a := 0) (by decide +kernel) rfl (?_ : AW _ _ _ _ 48 _ _ _ _ _ _)
      refine AW.getR (idx := 22) (ci := 9) (k := 7) (r := 0) (by decide +kernel) rfl rfl rfl (?_ : AW _ _ _ _ 51 _ _ _ _ _ _)
      refine AW.iload (i := 4) (a := v4) (by decide +kernel) rfl (?_ : AW _ _ _ _ 53 _ _ _ _ _ _)
      refine AW.iconst (n := 3) (by decide +kernel) (?_ : AW _ _ _ _ 54 _ _ _ _ _ _)
      refine AW.callP (g := cf_Model_dealAt) (av := [zI v4, zI 3]) (idx := 166) (n := 2) (st := [zR (some 5), zI v3]) (by decide +kernel) (fun l hl r hr => c_Model_dealAt l hl v4 3 _ r hr) rfl cal_Model_dealAt rfl (zw3 zm_X9_166 zt_yX9_dealAt zn_X9) ⟨by decide, by decide, by decide, by decide⟩ (Nat.le_of_ble_eq_true rfl) (fun v _ => AW.kI (fun x5 => (?_ : AW _ _ _ _ 57 _ _ _ _ _ _)) v)
      refine AW.lald (r := 5) (by decide +kernel) rfl (fun x6 => (?_ : AW _ _ _ _ 58 _ _ _ _ _ _))
      refine AW.lconst0 (by decide +kernel) (?_ : AW _ _ _ _ 59 _ _ _ _ _ _)
      refine AW.lcmp_ne (off := 10) (tgt := 70) (by decide +kernel) (by decide +kernel) (by decide) (fun _ => ?_) (fun _ => ?_)
      · refine AW.iconst (n := 1) (by decide +kernel) (?_ : AW _ _ _ _ 64 _ _ _ _ _ _)
        refine AW.iload (i := 4) (a := v4) (by decide +kernel) rfl (?_ : AW _ _ _ _ 66 _ _ _ _ _ _)
        refine AW.ishl (by decide +kernel) (?_ : AW _ _ _ _ 67 _ _ _ _ _ _)
        refine AW.goto (off := 4) (tgt := 71) (by decide +kernel) (by decide) ?_
        refine AW.sub (L' := [(0, zR (some 0)), (1, zI c1), (2, zI v2), (4, zI v4)]) [0, 1, 2, 4] rfl ?_
        exact j_Model_deals_71 c1 ih hK v2 v4 (zshl 1 v4) v3 μ
      · refine AW.iconst (n := 0) (by decide +kernel) (?_ : AW _ _ _ _ 71 _ _ _ _ _ _)
        refine AW.sub (L' := [(0, zR (some 0)), (1, zI c1), (2, zI v2), (4, zI v4)]) [0, 1, 2, 4] rfl ?_
        exact j_Model_deals_71 c1 ih hK v2 v4 0 v3 μ
def J_Model_deals_18 (a1 : Int) (y0 : Int) (μ : ZMem) : Option ZRes := zLet (zUp μ 0 0 y0) (fun μ3 => if w32 (μ3 0 0) ≤ 0 then (L_Model_deals_37 a1 (fun k18 k19 μ17 => if w32 a1 = w32 2 then (some (.inr (some (zI k19)), μ17)) else (some (.inr (some (zI k18)), μ17))) zN (-1) 0 0 μ3) else (some (.inr (some (zI 0)), μ3)))
set_option maxRecDepth 100000 in
theorem j_Model_deals_18 (a1 : Int) (y0 : Int) (μ : ZMem) : AW cf_Model_deals S_Model.length S_Model S_Model 18 [(0, zR (some 0)), (1, zI a1)] [zI y0, zR (some 0)] μ 0 0 (J_Model_deals_18 a1 y0 μ) := by
  unfold J_Model_deals_18
  refine AW.putiL (idx := 93) (ci := 9) (k := 0) (r := 0) (by decide +kernel) rfl rfl rfl (fun μ3 => (?_ : AW _ _ _ _ 21 _ _ _ _ _ _))
  refine AW.aload_n (i := 0) (a := 0) (by decide +kernel) rfl (?_ : AW _ _ _ _ 22 _ _ _ _ _ _)
  refine AW.getI (idx := 93) (ci := 9) (k := 0) (r := 0) (by decide +kernel) rfl rfl rfl (?_ : AW _ _ _ _ 25 _ _ _ _ _ _)
  refine AW.if_le (off := 5) (tgt := 30) (by decide +kernel) (by decide) (fun _ => ?_) (fun _ => ?_)
  · refine AW.iconst (n := -1) (by decide +kernel) (?_ : AW _ _ _ _ 31 _ _ _ _ _ _)
    refine AW.istore_n' (i := 2) (L' := [(2, zI (-1)), (0, zR (some 0)), (1, zI a1)]) (by decide +kernel) (by decide) rfl (?_ : AW _ _ _ _ 32 _ _ _ _ _ _)
    refine AW.iconst (n := 0) (by decide +kernel) (?_ : AW _ _ _ _ 33 _ _ _ _ _ _)
    refine AW.istore_n' (i := 3) (L' := [(3, zI 0), (2, zI (-1)), (0, zR (some 0)), (1, zI a1)]) (by decide +kernel) (by decide) rfl (?_ : AW _ _ _ _ 34 _ _ _ _ _ _)
    refine AW.iconst (n := 0) (by decide +kernel) (?_ : AW _ _ _ _ 35 _ _ _ _ _ _)
    refine AW.istore' (i := 4) (L' := [(4, zI 0), (3, zI 0), (2, zI (-1)), (0, zR (some 0)), (1, zI a1)]) (by decide +kernel) (by decide) rfl (?_ : AW _ _ _ _ 37 _ _ _ _ _ _)
    refine AW.sub (L' := [(0, zR (some 0)), (1, zI a1), (2, zI (-1)), (3, zI 0), (4, zI 0)]) [3, 4, 2, 1, 0] rfl ?_
    refine l_Model_deals_37 (fun k18 k19 μ17 => ?_) zN _ _ _ _
    refine AW.iload_n (i := 1) (a := a1) (by decide +kernel) rfl (?_ : AW _ _ _ _ 127 _ _ _ _ _ _)
    refine AW.iconst (n := 2) (by decide +kernel) (?_ : AW _ _ _ _ 128 _ _ _ _ _ _)
    refine AW.icmp_ne (off := 7) (tgt := 135) (by decide +kernel) (by decide) (fun _ => ?_) (fun _ => ?_)
    · refine AW.iload_n (i := 3) (a := k19) (by decide +kernel) rfl (?_ : AW _ _ _ _ 132 _ _ _ _ _ _)
      refine AW.goto (off := 4) (tgt := 136) (by decide +kernel) (by decide) ?_
      exact AW.reti (by decide +kernel) rfl (by decide) (by decide)
    · refine AW.iload_n (i := 2) (a := k18) (by decide +kernel) rfl (?_ : AW _ _ _ _ 136 _ _ _ _ _ _)
      exact AW.reti (by decide +kernel) rfl (by decide) (by decide)
  · refine AW.iconst (n := 0) (by decide +kernel) (?_ : AW _ _ _ _ 29 _ _ _ _ _ _)
    exact AW.reti (by decide +kernel) rfl (by decide) (by decide)
def F_Model_deals (a1 : Int) (μ : ZMem) : Option ZRes := zC (F_Model_isIn (w32 a1) 0 2 μ) (zkI (fun x2 _ => if w32 x2 = 0 then (J_Model_deals_18 a1 1 μ) else (J_Model_deals_18 a1 0 μ))) zX0
set_option maxRecDepth 100000 in
theorem w_Model_deals (a1 : Int) (μ : ZMem) : AW cf_Model_deals S_Model.length S_Model S_Model 0 [(0, zR (some 0)), (1, zI a1)] [] μ 0 0 (F_Model_deals a1 μ) := by
  unfold F_Model_deals
  refine AW.aload_n (i := 0) (a := 0) (by decide +kernel) rfl (?_ : AW _ _ _ _ 1 _ _ _ _ _ _)
  refine AW.iload_n (i := 1) (a := a1) (by decide +kernel) rfl (?_ : AW _ _ _ _ 2 _ _ _ _ _ _)
  refine AW.i2l (by decide +kernel) (?_ : AW _ _ _ _ 3 _ _ _ _ _ _)
  refine AW.lconst0 (by decide +kernel) (?_ : AW _ _ _ _ 4 _ _ _ _ _ _)
  refine AW.ldc2 (idx := 114) (v := 2) (by decide +kernel) zk_X9_114 (?_ : AW _ _ _ _ 7 _ _ _ _ _ _)
  refine AW.callP (g := cf_Model_isIn) (av := [zJ (w32 a1), zJ 0, zJ 2]) (idx := 99) (n := 3) (st := [zR (some 0)]) (by decide +kernel) (fun l hl r hr => c_Model_isIn l hl (w32 a1) 0 2 _ r hr) rfl cal_Model_isIn rfl (zw3 zm_X9_99 zt_yX9_isIn zn_X9) ⟨by decide, by decide, by decide, by decide⟩ (Nat.le_of_ble_eq_true rfl) (fun v _ => AW.kI (fun x2 => (?_ : AW _ _ _ _ 10 _ _ _ _ _ _)) v)
  refine AW.if_eq (off := 7) (tgt := 17) (by decide +kernel) (by decide) (fun _ => ?_) (fun _ => ?_)
  · refine AW.iconst (n := 1) (by decide +kernel) (?_ : AW _ _ _ _ 18 _ _ _ _ _ _)
    exact j_Model_deals_18 a1 1 μ
  · refine AW.iconst (n := 0) (by decide +kernel) (?_ : AW _ _ _ _ 14 _ _ _ _ _ _)
    refine AW.goto (off := 4) (tgt := 18) (by decide +kernel) (by decide) ?_
    exact j_Model_deals_18 a1 0 μ
theorem c_Model_deals (l : Launch) (hl : l.stackTraces = false) (a1 : Int) (μ : ZMem) (r : ZRes) (h : F_Model_deals a1 μ = some r) : ZC l cf_Model_deals S_Model S_Model [zR (some 0), zI a1] μ r := ZC.of hl (by decide +kernel) rfl rfl zft_X9_ok (Nat.le_of_ble_eq_true rfl) h (w_Model_deals a1 μ)
/-! WeirLedgerModel.flowIn(II)J -/
def cf_Model_flowIn : ZCf := (yX9_flowIn, cX9_flowIn, 6, some .long, [], 2, 0, 0, zft_X9, none)
theorem cal_Model_flowIn : zCallee cf_Model_flowIn 2 := ⟨rfl, zc_yX9_flowIn, by decide, by decide, by decide +kernel⟩
def J_Model_flowIn_55 (R : Int → Int → Option ZRes) (K : Int → Option ZRes) (c1 : Int) (c2 : Int) (u3 : Int) (u5 : Int) (μ : ZMem) : Option ZRes := zLet (u5 + 1) (fun x4 => R u3 x4)
set_option maxRecDepth 100000 in
theorem j_Model_flowIn_55 {R : Int → Int → Option ZRes} {K : Int → Option ZRes} (μ : ZMem) (c1 : Int) (c2 : Int) (hR : ∀ (v3 : Int) (v5 : Int), AW cf_Model_flowIn S_Model.length S_Model S_Model 5 [(0, zR (some 0)), (1, zI c1), (2, zI c2), (3, zJ v3), (5, zI v5)] [] μ 0 0 (R v3 v5)) (hK : ∀ (k3 : Int), AW cf_Model_flowIn S_Model.length S_Model S_Model 61 [(3, zJ k3)] [] μ 0 0 (K k3)) (u3 : Int) (u5 : Int) : AW cf_Model_flowIn S_Model.length S_Model S_Model 55 [(0, zR (some 0)), (1, zI c1), (2, zI c2), (3, zJ u3), (5, zI u5)] [] μ 0 0 (J_Model_flowIn_55 R K c1 c2 u3 u5 μ) := by
  unfold J_Model_flowIn_55
  refine AW.iincL (i := 5) (n := 1) (a := u5) (L' := fun x4 => [(5, zI x4), (0, zR (some 0)), (1, zI c1), (2, zI c2), (3, zJ u3)]) (by decide +kernel) rfl (by decide) (fun _ => rfl) (fun x4 => (?_ : AW _ _ _ _ 58 _ _ _ _ _ _))
  refine AW.goto (off := -53) (tgt := 5) (by decide +kernel) (by decide) ?_
  refine AW.sub (L' := [(0, zR (some 0)), (1, zI c1), (2, zI c2), (3, zJ u3), (5, zI x4)]) [1, 2, 3, 4, 0] rfl ?_
  exact hR u3 x4
def J_Model_flowIn_25 (R : Int → Int → Option ZRes) (K : Int → Option ZRes) (c1 : Int) (c2 : Int) (u3 : Int) (u5 : Int) (μ : ZMem) : Option ZRes := zRd μ 7 1206 ((201 * u5) + c2) (fun x1 => zRd μ 6 1206 ((201 * u5) + c2) (fun x2 => zLet ((u3 + (x1 - x2))) (fun x3 => J_Model_flowIn_55 R K c1 c2 x3 u5 μ)))
set_option maxRecDepth 100000 in
theorem j_Model_flowIn_25 {R : Int → Int → Option ZRes} {K : Int → Option ZRes} (μ : ZMem) (c1 : Int) (c2 : Int) (hR : ∀ (v3 : Int) (v5 : Int), AW cf_Model_flowIn S_Model.length S_Model S_Model 5 [(0, zR (some 0)), (1, zI c1), (2, zI c2), (3, zJ v3), (5, zI v5)] [] μ 0 0 (R v3 v5)) (hK : ∀ (k3 : Int), AW cf_Model_flowIn S_Model.length S_Model S_Model 61 [(3, zJ k3)] [] μ 0 0 (K k3)) (u3 : Int) (u5 : Int) : AW cf_Model_flowIn S_Model.length S_Model S_Model 25 [(0, zR (some 0)), (1, zI c1), (2, zI c2), (3, zJ u3), (5, zI u5)] [] μ 0 0 (J_Model_flowIn_25 R K c1 c2 u3 u5 μ) := by
  unfold J_Model_flowIn_25
  refine AW.lload_n (i := 3) (a := u3) (by decide +kernel) rfl (?_ : AW _ _ _ _ 26 _ _ _ _ _ _)
  refine AW.aload_n (i := 0) (a := 0) (by decide +kernel) rfl (?_ : AW _ _ _ _ 27 _ _ _ _ _ _)
  refine AW.getR (idx := 29) (ci := 9) (k := 9) (r := 0) (by decide +kernel) rfl rfl rfl (?_ : AW _ _ _ _ 30 _ _ _ _ _ _)
  refine AW.sipush (n := 201) (by decide +kernel) (by decide +kernel) (?_ : AW _ _ _ _ 33 _ _ _ _ _ _)
  refine AW.iload (i := 5) (a := u5) (by decide +kernel) rfl (?_ : AW _ _ _ _ 35 _ _ _ _ _ _)
  refine AW.imul (by decide +kernel) (?_ : AW _ _ _ _ 36 _ _ _ _ _ _)
  refine AW.iload_n (i := 2) (a := c2) (by decide +kernel) rfl (?_ : AW _ _ _ _ 37 _ _ _ _ _ _)
  refine AW.iadd (by decide +kernel) (?_ : AW _ _ _ _ 38 _ _ _ _ _ _)
  refine AW.lald (r := 7) (by decide +kernel) rfl (fun x1 => (?_ : AW _ _ _ _ 39 _ _ _ _ _ _))
  refine AW.aload_n (i := 0) (a := 0) (by decide +kernel) rfl (?_ : AW _ _ _ _ 40 _ _ _ _ _ _)
  refine AW.getR (idx := 26) (ci := 9) (k := 8) (r := 0) (by decide +kernel) rfl rfl rfl (?_ : AW _ _ _ _ 43 _ _ _ _ _ _)
  refine AW.sipush (n := 201) (by decide +kernel) (by decide +kernel) (?_ : AW _ _ _ _ 46 _ _ _ _ _ _)
  refine AW.iload (i := 5) (a := u5) (by decide +kernel) rfl (?_ : AW _ _ _ _ 48 _ _ _ _ _ _)
  refine AW.imul (by decide +kernel) (?_ : AW _ _ _ _ 49 _ _ _ _ _ _)
  refine AW.iload_n (i := 2) (a := c2) (by decide +kernel) rfl (?_ : AW _ _ _ _ 50 _ _ _ _ _ _)
  refine AW.iadd (by decide +kernel) (?_ : AW _ _ _ _ 51 _ _ _ _ _ _)
  refine AW.lald (r := 6) (by decide +kernel) rfl (fun x2 => (?_ : AW _ _ _ _ 52 _ _ _ _ _ _))
  refine AW.lsub (by decide +kernel) (?_ : AW _ _ _ _ 53 _ _ _ _ _ _)
  refine AW.ladd (by decide +kernel) (?_ : AW _ _ _ _ 54 _ _ _ _ _ _)
  refine AW.lstoreL_n (i := 3) (L' := fun x3 => [(3, zJ x3), (0, zR (some 0)), (1, zI c1), (2, zI c2), (5, zI u5)]) (by decide +kernel) (by decide) (fun _ => rfl) (fun x3 => (?_ : AW _ _ _ _ 55 _ _ _ _ _ _))
  refine AW.sub (L' := [(0, zR (some 0)), (1, zI c1), (2, zI c2), (3, zJ x3), (5, zI u5)]) [1, 2, 3, 0, 4] rfl ?_
  exact j_Model_flowIn_55 μ c1 c2 hR hK x3 u5
def L_Model_flowIn_5 (c1 : Int) (c2 : Int) (μ : ZMem) (K : Int → Option ZRes) : Nat → Int → Int → Option ZRes
  | 0, _, _ => none
  | n + 1, v3, v5 => if w32 (μ 0 5) ≤ w32 v5 then (K v3) else (if w32 c1 = w32 (-1) then (J_Model_flowIn_25 (fun v3 v5 => L_Model_flowIn_5 c1 c2 μ K n v3 v5) K c1 c2 v3 v5 μ) else (if w32 v5 = w32 c1 then (J_Model_flowIn_25 (fun v3 v5 => L_Model_flowIn_5 c1 c2 μ K n v3 v5) K c1 c2 v3 v5 μ) else (J_Model_flowIn_55 (fun v3 v5 => L_Model_flowIn_5 c1 c2 μ K n v3 v5) K c1 c2 v3 v5 μ)))
set_option maxRecDepth 100000 in
theorem l_Model_flowIn_5 {c1 : Int} {c2 : Int} {μ : ZMem} {K : Int → Option ZRes} (hK : ∀ (k3 : Int), AW cf_Model_flowIn S_Model.length S_Model S_Model 61 [(3, zJ k3)] [] μ 0 0 (K k3)) : ∀ (n : Nat) (v3 : Int) (v5 : Int), AW cf_Model_flowIn S_Model.length S_Model S_Model 5 [(0, zR (some 0)), (1, zI c1), (2, zI c2), (3, zJ v3), (5, zI v5)] [] μ 0 0 (L_Model_flowIn_5 c1 c2 μ K n v3 v5) := by
  intro n
  induction n with
  | zero => intro v3 v5; exact AW.noth
  | succ n ih =>
    intro v3 v5
    rw [L_Model_flowIn_5]
    refine AW.iload (i := 5) (a := v5) (by decide +kernel) rfl (?_ : AW _ _ _ _ 7 _ _ _ _ _ _)
    refine AW.aload_n (i := 0) (a := 0) (by decide +kernel) rfl (?_ : AW _ _ _ _ 8 _ _ _ _ _ _)
    refine AW.getI (idx := 96) (ci := 9) (k := 5) (r := 0) (by decide +kernel) rfl rfl rfl (?_ : AW _ _ _ _ 11 _ _ _ _ _ _)
    refine AW.icmp_ge (off := 50) (tgt := 61) (by decide +kernel) (by decide) (fun _ => ?_) (fun _ => ?_)
    · refine AW.sub (L' := [(3, zJ v3)]) [3] rfl ?_
      exact hK v3
    · refine AW.iload_n (i := 1) (a := c1) (by decide +kernel) rfl (?_ : AW _ _ _ _ 15 _ _ _ _ _ _)
      refine AW.iconst (n := -1) (by decide +kernel) (?_ : AW _ _ _ _ 16 _ _ _ _ _ _)
      refine AW.icmp_eq (off := 9) (tgt := 25) (by decide +kernel) (by decide) (fun _ => ?_) (fun _ => ?_)
      · exact j_Model_flowIn_25 μ c1 c2 ih hK v3 v5
      · refine AW.iload (i := 5) (a := v5) (by decide +kernel) rfl (?_ : AW _ _ _ _ 21 _ _ _ _ _ _)
        refine AW.iload_n (i := 1) (a := c1) (by decide +kernel) rfl (?_ : AW _ _ _ _ 22 _ _ _ _ _ _)
        refine AW.icmp_ne (off := 33) (tgt := 55) (by decide +kernel) (by decide) (fun _ => ?_) (fun _ => ?_)
        · exact j_Model_flowIn_25 μ c1 c2 ih hK v3 v5
        · exact j_Model_flowIn_55 μ c1 c2 ih hK v3 v5
def F_Model_flowIn (a1 : Int) (a2 : Int) (μ : ZMem) : Option ZRes := L_Model_flowIn_5 a1 a2 μ (fun k5 => some (.inr (some (zJ k5)), μ)) zN 0 0
set_option maxRecDepth 100000 in
theorem w_Model_flowIn (a1 : Int) (a2 : Int) (μ : ZMem) : AW cf_Model_flowIn S_Model.length S_Model S_Model 0 [(0, zR (some 0)), (1, zI a1), (2, zI a2)] [] μ 0 0 (F_Model_flowIn a1 a2 μ) := by
  unfold F_Model_flowIn
  refine AW.lconst0 (by decide +kernel) (?_ : AW _ _ _ _ 1 _ _ _ _ _ _)
  refine AW.lstore_n' (i := 3) (L' := [(3, zJ 0), (0, zR (some 0)), (1, zI a1), (2, zI a2)]) (by decide +kernel) (by decide) rfl (?_ : AW _ _ _ _ 2 _ _ _ _ _ _)
  refine AW.iconst (n := 0) (by decide +kernel) (?_ : AW _ _ _ _ 3 _ _ _ _ _ _)
  refine AW.istore' (i := 5) (L' := [(5, zI 0), (3, zJ 0), (0, zR (some 0)), (1, zI a1), (2, zI a2)]) (by decide +kernel) (by decide) rfl (?_ : AW _ _ _ _ 5 _ _ _ _ _ _)
  refine AW.sub (L' := [(0, zR (some 0)), (1, zI a1), (2, zI a2), (3, zJ 0), (5, zI 0)]) [2, 3, 4, 1, 0] rfl ?_
  refine l_Model_flowIn_5 (fun k5 => ?_) zN _ _
  refine AW.lload_n (i := 3) (a := k5) (by decide +kernel) rfl (?_ : AW _ _ _ _ 62 _ _ _ _ _ _)
  exact AW.retl (by decide +kernel) rfl (by decide) (by decide)
theorem c_Model_flowIn (l : Launch) (hl : l.stackTraces = false) (a1 : Int) (a2 : Int) (μ : ZMem) (r : ZRes) (h : F_Model_flowIn a1 a2 μ = some r) : ZC l cf_Model_flowIn S_Model S_Model [zR (some 0), zI a1, zI a2] μ r := ZC.of hl (by decide +kernel) rfl rfl zft_X9_ok (Nat.le_of_ble_eq_true rfl) h (w_Model_flowIn a1 a2 μ)
/-! WeirLedgerModel.curveAt(I)J -/
def cf_Model_curveAt : ZCf := (yX9_curveAt, cX9_curveAt, 5, some .long, [], 3, 0, 0, zft_X9, none)
theorem cal_Model_curveAt : zCallee cf_Model_curveAt 1 := ⟨rfl, zc_yX9_curveAt, by decide, by decide, by decide +kernel⟩
def L_Model_curveAt_5 (c1 : Int) (K : Int → ZMem → Option ZRes) : Nat → Int → Int → ZMem → Option ZRes
  | 0, _, _, _ => none
  | n + 1, v2, v4, μ => if w32 c1 < w32 v4 then (K v2 μ) else (zC (F_Model_flowIn (-1) v4 μ) (zkJ (fun x2 μ1 => zLet ((v2 + x2)) (fun x3 => zLet (v4 + 1) (fun x4 => L_Model_curveAt_5 c1 K n x3 x4 μ1)))) zX0)
set_option maxRecDepth 100000 in
theorem l_Model_curveAt_5 {c1 : Int} {K : Int → ZMem → Option ZRes} (hK : ∀ (k2 : Int) (μ : ZMem), AW cf_Model_curveAt S_Model.length S_Model S_Model 27 [(2, zJ k2)] [] μ 0 0 (K k2 μ)) : ∀ (n : Nat) (v2 : Int) (v4 : Int) (μ : ZMem), AW cf_Model_curveAt S_Model.length S_Model S_Model 5 [(0, zR (some 0)), (1, zI c1), (2, zJ v2), (4, zI v4)] [] μ 0 0 (L_Model_curveAt_5 c1 K n v2 v4 μ) := by
  intro n
  induction n with
  | zero => intro v2 v4 μ; exact AW.noth
  | succ n ih =>
    intro v2 v4 μ
    rw [L_Model_curveAt_5]
    refine AW.iload (i := 4) (a := v4) (by decide +kernel) rfl (?_ : AW _ _ _ _ 7 _ _ _ _ _ _)
    refine AW.iload_n (i := 1) (a := c1) (by decide +kernel) rfl (?_ : AW _ _ _ _ 8 _ _ _ _ _ _)
    refine AW.icmp_gt (off := 19) (tgt := 27) (by decide +kernel) (by decide) (fun _ => ?_) (fun _ => ?_)
    · refine AW.sub (L' := [(2, zJ v2)]) [2] rfl ?_
      exact hK v2 μ
    · refine AW.lload_n (i := 2) (a := v2) (by decide +kernel) rfl (?_ : AW _ _ _ _ 12 _ _ _ _ _ _)
      refine AW.aload_n (i := 0) (a := 0) (by decide +kernel) rfl (?_ : AW _ _ _ _ 13 _ _ _ _ _ _)
      refine AW.iconst (n := -1) (by decide +kernel) (?_ : AW _ _ _ _ 14 _ _ _ _ _ _)
      refine AW.iload (i := 4) (a := v4) (by decide +kernel) rfl (?_ : AW _ _ _ _ 16 _ _ _ _ _ _)
      refine AW.callVw (g := cf_Model_flowIn) (av := [zI (-1), zI v4]) (b0 := 0) (ci := 9) (idx := 426) (n := 2) (st := [zJ v2]) (by decide +kernel) (fun l hl r hr => c_Model_flowIn l hl (-1) v4 _ r hr) S_Model_wf rfl cal_Model_flowIn rfl (zw4 zm_X9_426 zi_yX9_flowIn zs_yX9_flowIn zn_X9) rfl rfl ⟨by decide, by decide, by decide, by decide⟩ (Nat.le_of_ble_eq_true rfl) (Or.inl rfl) (fun v μ1 => AW.kJ (fun x2 => (?_ : AW _ _ _ _ 19 _ _ _ _ _ _)) v)
      refine AW.ladd (by decide +kernel) (?_ : AW _ _ _ _ 20 _ _ _ _ _ _)
      refine AW.lstoreL_n (i := 2) (L' := fun x3 => [(2, zJ x3), (0, zR (some 0)), (1, zI c1), (4, zI v4)]) (by decide +kernel) (by decide) (fun _ => rfl) (fun x3 => (?_ : AW _ _ _ _ 21 _ _ _ _ _ _))
      refine AW.iincL (i := 4) (n := 1) (a := v4) (L' := fun x4 => [(4, zI x4), (2, zJ x3), (0, zR (some 0)), (1, zI c1)]) (by decide +kernel) rfl (by decide) (fun _ => rfl) (fun x4 => (?_ : AW _ _ _ _ 24 _ _ _ _ _ _))
      refine AW.goto (off := -19) (tgt := 5) (by decide +kernel) (by decide) ?_
      refine AW.sub (L' := [(0, zR (some 0)), (1, zI c1), (2, zJ x3), (4, zI x4)]) [2, 3, 1, 0] rfl ?_
      exact ih x3 x4 μ1
def F_Model_curveAt (a1 : Int) (μ : ZMem) : Option ZRes := L_Model_curveAt_5 a1 (fun k6 μ5 => some (.inr (some (zJ k6)), μ5)) zN 0 0 μ
set_option maxRecDepth 100000 in
theorem w_Model_curveAt (a1 : Int) (μ : ZMem) : AW cf_Model_curveAt S_Model.length S_Model S_Model 0 [(0, zR (some 0)), (1, zI a1)] [] μ 0 0 (F_Model_curveAt a1 μ) := by
  unfold F_Model_curveAt
  refine AW.lconst0 (by decide +kernel) (?_ : AW _ _ _ _ 1 _ _ _ _ _ _)
  refine AW.lstore_n' (i := 2) (L' := [(2, zJ 0), (0, zR (some 0)), (1, zI a1)]) (by decide +kernel) (by decide) rfl (?_ : AW _ _ _ _ 2 _ _ _ _ _ _)
  refine AW.iconst (n := 0) (by decide +kernel) (?_ : AW _ _ _ _ 3 _ _ _ _ _ _)
  refine AW.istore' (i := 4) (L' := [(4, zI 0), (2, zJ 0), (0, zR (some 0)), (1, zI a1)]) (by decide +kernel) (by decide) rfl (?_ : AW _ _ _ _ 5 _ _ _ _ _ _)
  refine AW.sub (L' := [(0, zR (some 0)), (1, zI a1), (2, zJ 0), (4, zI 0)]) [2, 3, 1, 0] rfl ?_
  refine l_Model_curveAt_5 (fun k6 μ5 => ?_) zN _ _ _
  refine AW.lload_n (i := 2) (a := k6) (by decide +kernel) rfl (?_ : AW _ _ _ _ 28 _ _ _ _ _ _)
  exact AW.retl (by decide +kernel) rfl (by decide) (by decide)
theorem c_Model_curveAt (l : Launch) (hl : l.stackTraces = false) (a1 : Int) (μ : ZMem) (r : ZRes) (h : F_Model_curveAt a1 μ = some r) : ZC l cf_Model_curveAt S_Model S_Model [zR (some 0), zI a1] μ r := ZC.of hl (by decide +kernel) rfl rfl zft_X9_ok (Nat.le_of_ble_eq_true rfl) h (w_Model_curveAt a1 μ)
/-! WeirLedgerModel.curve(I)J -/
def cf_Model_curve : ZCf := (yX9_curve, cX9_curve, 2, some .long, [], 4, 0, 0, zft_X9, none)
theorem cal_Model_curve : zCallee cf_Model_curve 1 := ⟨rfl, zc_yX9_curve, by decide, by decide, by decide +kernel⟩
def J_Model_curve_22 (a1 : Int) (y0 : Int) (μ : ZMem) : Option ZRes := zLet (zUp μ 0 0 y0) (fun μ4 => if w32 (μ4 0 0) ≤ 0 then (zC (F_Model_curveAt a1 μ4) (zkJ (fun x6 μ5 => some (.inr (some (zJ x6)), μ5))) zX0) else (some (.inr (some (zJ 0)), μ4)))
set_option maxRecDepth 100000 in
theorem j_Model_curve_22 (a1 : Int) (y0 : Int) (μ : ZMem) : AW cf_Model_curve S_Model.length S_Model S_Model 22 [(0, zR (some 0)), (1, zI a1)] [zI y0, zR (some 0)] μ 0 0 (J_Model_curve_22 a1 y0 μ) := by
  unfold J_Model_curve_22
  refine AW.putiL (idx := 93) (ci := 9) (k := 0) (r := 0) (by decide +kernel) rfl rfl rfl (fun μ4 => (?_ : AW _ _ _ _ 25 _ _ _ _ _ _))
  refine AW.aload_n (i := 0) (a := 0) (by decide +kernel) rfl (?_ : AW _ _ _ _ 26 _ _ _ _ _ _)
  refine AW.getI (idx := 93) (ci := 9) (k := 0) (r := 0) (by decide +kernel) rfl rfl rfl (?_ : AW _ _ _ _ 29 _ _ _ _ _ _)
  refine AW.if_le (off := 7) (tgt := 36) (by decide +kernel) (by decide) (fun _ => ?_) (fun _ => ?_)
  · refine AW.aload_n (i := 0) (a := 0) (by decide +kernel) rfl (?_ : AW _ _ _ _ 37 _ _ _ _ _ _)
    refine AW.iload_n (i := 1) (a := a1) (by decide +kernel) rfl (?_ : AW _ _ _ _ 38 _ _ _ _ _ _)
    refine AW.callVw (g := cf_Model_curveAt) (av := [zI a1]) (b0 := 0) (ci := 9) (idx := 429) (n := 1) (st := []) (by decide +kernel) (fun l hl r hr => c_Model_curveAt l hl a1 _ r hr) S_Model_wf rfl cal_Model_curveAt rfl (zw4 zm_X9_429 zi_yX9_curveAt zs_yX9_curveAt zn_X9) rfl rfl ⟨by decide, by decide, by decide, by decide⟩ (Nat.le_of_ble_eq_true rfl) (Or.inl rfl) (fun v μ5 => AW.kJ (fun x6 => (?_ : AW _ _ _ _ 41 _ _ _ _ _ _)) v)
    exact AW.retl (by decide +kernel) rfl (by decide) (by decide)
  · refine AW.lconst0 (by decide +kernel) (?_ : AW _ _ _ _ 33 _ _ _ _ _ _)
    refine AW.goto (off := 8) (tgt := 41) (by decide +kernel) (by decide) ?_
    exact AW.retl (by decide +kernel) rfl (by decide) (by decide)
def F_Model_curve (a1 : Int) (μ : ZMem) : Option ZRes := zRd μ 5 92 90 (fun x1 => zC (F_Model_isIn (w32 a1) 0 x1 μ) (zkI (fun x3 _ => if w32 x3 = 0 then (J_Model_curve_22 a1 1 μ) else (J_Model_curve_22 a1 0 μ))) zX0)
set_option maxRecDepth 100000 in
theorem w_Model_curve (a1 : Int) (μ : ZMem) : AW cf_Model_curve S_Model.length S_Model S_Model 0 [(0, zR (some 0)), (1, zI a1)] [] μ 0 0 (F_Model_curve a1 μ) := by
  unfold F_Model_curve
  refine AW.aload_n (i := 0) (a := 0) (by decide +kernel) rfl (?_ : AW _ _ _ _ 1 _ _ _ _ _ _)
  refine AW.iload_n (i := 1) (a := a1) (by decide +kernel) rfl (?_ : AW _ _ _ _ 2 _ _ _ _ _ _)
  refine AW.i2l (by decide +kernel) (?_ : AW _ _ _ _ 3 _ _ _ _ _ _)
  refine AW.lconst0 (by decide +kernel) (?_ : AW _ _ _ _ 4 _ _ _ _ _ _)
  refine AW.aload_n (i := 0) (a := 0) (by decide +kernel) rfl (?_ : AW _ _ _ _ 5 _ _ _ _ _ _)
  refine AW.getR (idx := 22) (ci := 9) (k := 7) (r := 0) (by decide +kernel) rfl rfl rfl (?_ : AW _ _ _ _ 8 _ _ _ _ _ _)
  refine AW.bipush (n := 90) (by decide +kernel) (by decide +kernel) (?_ : AW _ _ _ _ 10 _ _ _ _ _ _)
  refine AW.lald (r := 5) (by decide +kernel) rfl (fun x1 => (?_ : AW _ _ _ _ 11 _ _ _ _ _ _))
  refine AW.callP (g := cf_Model_isIn) (av := [zJ (w32 a1), zJ 0, zJ x1]) (idx := 99) (n := 3) (st := [zR (some 0)]) (by decide +kernel) (fun l hl r hr => c_Model_isIn l hl (w32 a1) 0 x1 _ r hr) rfl cal_Model_isIn rfl (zw3 zm_X9_99 zt_yX9_isIn zn_X9) ⟨by decide, by decide, by decide, by decide⟩ (Nat.le_of_ble_eq_true rfl) (fun v _ => AW.kI (fun x3 => (?_ : AW _ _ _ _ 14 _ _ _ _ _ _)) v)
  refine AW.if_eq (off := 7) (tgt := 21) (by decide +kernel) (by decide) (fun _ => ?_) (fun _ => ?_)
  · refine AW.iconst (n := 1) (by decide +kernel) (?_ : AW _ _ _ _ 22 _ _ _ _ _ _)
    exact j_Model_curve_22 a1 1 μ
  · refine AW.iconst (n := 0) (by decide +kernel) (?_ : AW _ _ _ _ 18 _ _ _ _ _ _)
    refine AW.goto (off := 4) (tgt := 22) (by decide +kernel) (by decide) ?_
    exact j_Model_curve_22 a1 0 μ
theorem c_Model_curve (l : Launch) (hl : l.stackTraces = false) (a1 : Int) (μ : ZMem) (r : ZRes) (h : F_Model_curve a1 μ = some r) : ZC l cf_Model_curve S_Model S_Model [zR (some 0), zI a1] μ r := ZC.of hl (by decide +kernel) rfl rfl zft_X9_ok (Nat.le_of_ble_eq_true rfl) h (w_Model_curve a1 μ)
/-! WeirLedgerModel.curves(I)I -/
def cf_Model_curves : ZCf := (yX9_curves, cX9_curves, 6, some .int, [], 4, 0, 0, zft_X9, none)
theorem cal_Model_curves : zCallee cf_Model_curves 1 := ⟨rfl, zc_yX9_curves, by decide, by decide, by decide +kernel⟩
def J_Model_curves_71 (R : Int → Int → ZMem → Option ZRes) (K : Int → ZMem → Option ZRes) (c1 : Int) (c2 : Int) (u3 : Int) (c4 : Int) (u5 : Int) (μ : ZMem) : Option ZRes := zLet (u5 + 1) (fun x10 => R u3 x10 μ)
set_option maxRecDepth 100000 in
theorem j_Model_curves_71 {R : Int → Int → ZMem → Option ZRes} {K : Int → ZMem → Option ZRes} (c1 : Int) (c2 : Int) (c4 : Int) (hR : ∀ (v3 : Int) (v5 : Int) (μ : ZMem), AW cf_Model_curves S_Model.length S_Model S_Model 47 [(0, zR (some 0)), (1, zI c1), (2, zI c2), (3, zI v3), (4, zI c4), (5, zI v5)] [] μ 0 0 (R v3 v5 μ)) (hK : ∀ (k3 : Int) (μ : ZMem), AW cf_Model_curves S_Model.length S_Model S_Model 77 [(0, zR (some 0)), (1, zI c1), (2, zI c2), (3, zI k3), (4, zI c4)] [] μ 0 0 (K k3 μ)) (u3 : Int) (u5 : Int) (μ : ZMem) : AW cf_Model_curves S_Model.length S_Model S_Model 71 [(0, zR (some 0)), (1, zI c1), (2, zI c2), (3, zI u3), (4, zI c4), (5, zI u5)] [] μ 0 0 (J_Model_curves_71 R K c1 c2 u3 c4 u5 μ) := by
  unfold J_Model_curves_71
  refine AW.iincL (i := 5) (n := 1) (a := u5) (L' := fun x10 => [(5, zI x10), (0, zR (some 0)), (1, zI c1), (2, zI c2), (3, zI u3), (4, zI c4)]) (by decide +kernel) rfl (by decide) (fun _ => rfl) (fun x10 => (?_ : AW _ _ _ _ 74 _ _ _ _ _ _))
  refine AW.goto (off := -27) (tgt := 47) (by decide +kernel) (by decide) ?_
  refine AW.sub (L' := [(0, zR (some 0)), (1, zI c1), (2, zI c2), (3, zI u3), (4, zI c4), (5, zI x10)]) [1, 2, 3, 4, 5, 0] rfl ?_
  exact hR u3 x10 μ
def L_Model_curves_47 (c1 : Int) (c2 : Int) (c4 : Int) (K : Int → ZMem → Option ZRes) : Nat → Int → Int → ZMem → Option ZRes
  | 0, _, _, _ => none
  | n + 1, v3, v5, μ => if w32 c2 < w32 v5 then (K v3 μ) else (zC (F_Model_curveAt v5 μ) (zkJ (fun x7 μ6 => zC (F_Model_curveAt v3 μ6) (zkJ (fun x9 μ8 => if w64 x9 ≤ w64 x7 then (J_Model_curves_71 (fun v3 v5 μ => L_Model_curves_47 c1 c2 c4 K n v3 v5 μ) K c1 c2 v3 c4 v5 μ8) else (J_Model_curves_71 (fun v3 v5 μ => L_Model_curves_47 c1 c2 c4 K n v3 v5 μ) K c1 c2 v5 c4 v5 μ8))) zX0)) zX0)
set_option maxRecDepth 100000 in
theorem l_Model_curves_47 {c1 : Int} {c2 : Int} {c4 : Int} {K : Int → ZMem → Option ZRes} (hK : ∀ (k3 : Int) (μ : ZMem), AW cf_Model_curves S_Model.length S_Model S_Model 77 [(0, zR (some 0)), (1, zI c1), (2, zI c2), (3, zI k3), (4, zI c4)] [] μ 0 0 (K k3 μ)) : ∀ (n : Nat) (v3 : Int) (v5 : Int) (μ : ZMem), AW cf_Model_curves S_Model.length S_Model S_Model 47 [(0, zR (some 0)), (1, zI c1), (2, zI c2), (3, zI v3), (4, zI c4), (5, zI v5)] [] μ 0 0 (L_Model_curves_47 c1 c2 c4 K n v3 v5 μ) := by
  intro n
  induction n with
  | zero => intro v3 v5 μ; exact AW.noth
  | succ n ih =>
    intro v3 v5 μ
    rw [L_Model_curves_47]
    refine AW.iload (i := 5) (a := v5) (by decide +kernel) rfl (?_ : AW _ _ _ _ 49 _ _ _ _ _ _)
    refine AW.iload_n (i := 2) (a := c2) (by decide +kernel) rfl (?_ : AW _ _ _ _ 50 _ _ _ _ _ _)
    refine AW.icmp_gt (off := 27) (tgt := 77) (by decide +kernel) (by decide) (fun _ => ?_) (fun _ => ?_)
    · refine AW.sub (L' := [(0, zR (some 0)), (1, zI c1), (2, zI c2), (3, zI v3), (4, zI c4)]) [0, 1, 2, 3, 4] rfl ?_
      exact hK v3 μ
    · refine AW.aload_n (i := 0) (a := 0) (by decide +kernel) rfl (?_ : AW _ _ _ _ 54 _ _ _ _ _ _)
      refine AW.iload (i := 5) (a := v5) (by decide +kernel) rfl (?_ : AW _ _ _ _ 56 _ _ _ _ _ _)
      refine AW.callVw (g := cf_Model_curveAt) (av := [zI v5]) (b0 := 0) (ci := 9) (idx := 429) (n := 1) (st := []) (by decide +kernel) (fun l hl r hr => c_Model_curveAt l hl v5 _ r hr) S_Model_wf rfl cal_Model_curveAt rfl (zw4 zm_X9_429 zi_yX9_curveAt zs_yX9_curveAt zn_X9) rfl rfl ⟨by decide, by decide, by decide, by decide⟩ (Nat.le_of_ble_eq_true rfl) (Or.inl rfl) (fun v μ6 => AW.kJ (fun x7 => (?_ : AW _ _ _ _ 59 _ _ _ _ _ _)) v)
      refine AW.aload_n (i := 0) (a := 0) (by decide +kernel) rfl (?_ : AW _ _ _ _ 60 _ _ _ _ _ _)
      refine AW.iload_n (i := 3) (a := v3) (by decide +kernel) rfl (?_ : AW _ _ _ _ 61 _ _ _ _ _ _)
      refine AW.callVw (g := cf_Model_curveAt) (av := [zI v3]) (b0 := 0) (ci := 9) (idx := 429) (n := 1) (st := [zJ x7]) (by decide +kernel) (fun l hl r hr => c_Model_curveAt l hl v3 _ r hr) S_Model_wf rfl cal_Model_curveAt rfl (zw4 zm_X9_429 zi_yX9_curveAt zs_yX9_curveAt zn_X9) rfl rfl ⟨by decide, by decide, by decide, by decide⟩ (Nat.le_of_ble_eq_true rfl) (Or.inl rfl) (fun v μ8 => AW.kJ (fun x9 => (?_ : AW _ _ _ _ 64 _ _ _ _ _ _)) v)
      refine AW.lcmp_ge (off := 6) (tgt := 71) (by decide +kernel) (by decide +kernel) (by decide) (fun _ => ?_) (fun _ => ?_)
      · exact j_Model_curves_71 c1 c2 c4 ih hK v3 v5 μ8
      · refine AW.iload (i := 5) (a := v5) (by decide +kernel) rfl (?_ : AW _ _ _ _ 70 _ _ _ _ _ _)
        refine AW.istore_n' (i := 3) (L' := [(3, zI v5), (0, zR (some 0)), (1, zI c1), (2, zI c2), (4, zI c4), (5, zI v5)]) (by decide +kernel) (by decide) rfl (?_ : AW _ _ _ _ 71 _ _ _ _ _ _)
        refine AW.sub (L' := [(0, zR (some 0)), (1, zI c1), (2, zI c2), (3, zI v5), (4, zI c4), (5, zI v5)]) [1, 2, 3, 0, 4, 5] rfl ?_
        exact j_Model_curves_71 c1 c2 c4 ih hK v5 v5 μ8
def L_Model_curves_77 (c1 : Int) (c2 : Int) (c3 : Int) (K : Int → ZMem → Option ZRes) : Nat → Int → ZMem → Option ZRes
  | 0, _, _ => none
  | n + 1, v4, μ => if w32 v4 ≤ 0 then (K v4 μ) else (zC (F_Model_curveAt (v4 - 1) μ) (zkJ (fun x14 μ13 => if w64 x14 < w64 0 then (K v4 μ13) else (zLet (v4 + (-1)) (fun x15 => L_Model_curves_77 c1 c2 c3 K n x15 μ13)))) zX0)
set_option maxRecDepth 100000 in
theorem l_Model_curves_77 {c1 : Int} {c2 : Int} {c3 : Int} {K : Int → ZMem → Option ZRes} (hK : ∀ (k4 : Int) (μ : ZMem), AW cf_Model_curves S_Model.length S_Model S_Model 101 [(1, zI c1), (2, zI c2), (3, zI c3), (4, zI k4)] [] μ 0 0 (K k4 μ)) : ∀ (n : Nat) (v4 : Int) (μ : ZMem), AW cf_Model_curves S_Model.length S_Model S_Model 77 [(0, zR (some 0)), (1, zI c1), (2, zI c2), (3, zI c3), (4, zI v4)] [] μ 0 0 (L_Model_curves_77 c1 c2 c3 K n v4 μ) := by
  intro n
  induction n with
  | zero => intro v4 μ; exact AW.noth
  | succ n ih =>
    intro v4 μ
    rw [L_Model_curves_77]
    refine AW.iload (i := 4) (a := v4) (by decide +kernel) rfl (?_ : AW _ _ _ _ 79 _ _ _ _ _ _)
    refine AW.if_le (off := 22) (tgt := 101) (by decide +kernel) (by decide) (fun _ => ?_) (fun _ => ?_)
    · refine AW.sub (L' := [(1, zI c1), (2, zI c2), (3, zI c3), (4, zI v4)]) [1, 2, 3, 4] rfl ?_
      exact hK v4 μ
    · refine AW.aload_n (i := 0) (a := 0) (by decide +kernel) rfl (?_ : AW _ _ _ _ 83 _ _ _ _ _ _)
      refine AW.iload (i := 4) (a := v4) (by decide +kernel) rfl (?_ : AW _ _ _ _ 85 _ _ _ _ _ _)
      refine AW.iconst (n := 1) (by decide +kernel) (?_ : AW _ _ _ _ 86 _ _ _ _ _ _)
      refine AW.isub (by decide +kernel) (?_ : AW _ _ _ _ 87 _ _ _ _ _ _)
      refine AW.callVw (g := cf_Model_curveAt) (av := [zI (v4 - 1)]) (b0 := 0) (ci := 9) (idx := 429) (n := 1) (st := []) (by decide +kernel) (fun l hl r hr => c_Model_curveAt l hl (v4 - 1) _ r hr) S_Model_wf rfl cal_Model_curveAt rfl (zw4 zm_X9_429 zi_yX9_curveAt zs_yX9_curveAt zn_X9) rfl rfl ⟨by decide, by decide, by decide, by decide⟩ (Nat.le_of_ble_eq_true rfl) (Or.inl rfl) (fun v μ13 => AW.kJ (fun x14 => (?_ : AW _ _ _ _ 90 _ _ _ _ _ _)) v)
      refine AW.lconst0 (by decide +kernel) (?_ : AW _ _ _ _ 91 _ _ _ _ _ _)
      refine AW.lcmp_lt (off := 9) (tgt := 101) (by decide +kernel) (by decide +kernel) (by decide) (fun _ => ?_) (fun _ => ?_)
      · refine AW.sub (L' := [(1, zI c1), (2, zI c2), (3, zI c3), (4, zI v4)]) [1, 2, 3, 4] rfl ?_
        exact hK v4 μ13
      · refine AW.iincL (i := 4) (n := -1) (a := v4) (L' := fun x15 => [(4, zI x15), (0, zR (some 0)), (1, zI c1), (2, zI c2), (3, zI c3)]) (by decide +kernel) rfl (by decide) (fun _ => rfl) (fun x15 => (?_ : AW _ _ _ _ 98 _ _ _ _ _ _))
        refine AW.goto (off := -21) (tgt := 77) (by decide +kernel) (by decide) ?_
        refine AW.sub (L' := [(0, zR (some 0)), (1, zI c1), (2, zI c2), (3, zI c3), (4, zI x15)]) [1, 2, 3, 4, 0] rfl ?_
        exact ih x15 μ13
def J_Model_curves_16 (a1 : Int) (y0 : Int) (μ : ZMem) : Option ZRes := zLet (zUp μ 0 0 y0) (fun μ3 => if w32 (μ3 0 0) ≤ 0 then (zRd μ3 5 92 90 (fun x4 => zLet ((x4 + 1)) (fun x5 => L_Model_curves_47 a1 x4 x5 (fun k12 μ11 => L_Model_curves_77 a1 x4 k12 (fun k17 μ16 => if w32 a1 = 0 then (some (.inr (some (zI k12)), μ16)) else (if w32 k17 ≤ w32 x4 then (some (.inr (some (zI k17)), μ16)) else (some (.inr (some (zI (-1))), μ16)))) zN x5 μ11) zN 0 0 μ3))) else (some (.inr (some (zI 0)), μ3)))
set_option maxRecDepth 100000 in
theorem j_Model_curves_16 (a1 : Int) (y0 : Int) (μ : ZMem) : AW cf_Model_curves S_Model.length S_Model S_Model 16 [(0, zR (some 0)), (1, zI a1)] [zI y0, zR (some 0)] μ 0 0 (J_Model_curves_16 a1 y0 μ) := by
  unfold J_Model_curves_16
  refine AW.putiL (idx := 93) (ci := 9) (k := 0) (r := 0) (by decide +kernel) rfl rfl rfl (fun μ3 => (?_ : AW _ _ _ _ 19 _ _ _ _ _ _))
  refine AW.aload_n (i := 0) (a := 0) (by decide +kernel) rfl (?_ : AW _ _ _ _ 20 _ _ _ _ _ _)
  refine AW.getI (idx := 93) (ci := 9) (k := 0) (r := 0) (by decide +kernel) rfl rfl rfl (?_ : AW _ _ _ _ 23 _ _ _ _ _ _)
  refine AW.if_le (off := 5) (tgt := 28) (by decide +kernel) (by decide) (fun _ => ?_) (fun _ => ?_)
  · refine AW.aload_n (i := 0) (a := 0) (by decide +kernel) rfl (?_ : AW _ _ _ _ 29 _ _ _ _ _ _)
    refine AW.getR (idx := 22) (ci := 9) (k := 7) (r := 0) (by decide +kernel) rfl rfl rfl (?_ : AW _ _ _ _ 32 _ _ _ _ _ _)
    refine AW.bipush (n := 90) (by decide +kernel) (by decide +kernel) (?_ : AW _ _ _ _ 34 _ _ _ _ _ _)
    refine AW.lald (r := 5) (by decide +kernel) rfl (fun x4 => (?_ : AW _ _ _ _ 35 _ _ _ _ _ _))
    refine AW.l2i (by decide +kernel) (?_ : AW _ _ _ _ 36 _ _ _ _ _ _)
    refine AW.istore_n' (i := 2) (L' := [(2, zI x4), (0, zR (some 0)), (1, zI a1)]) (by decide +kernel) (by decide) rfl (?_ : AW _ _ _ _ 37 _ _ _ _ _ _)
    refine AW.iconst (n := 0) (by decide +kernel) (?_ : AW _ _ _ _ 38 _ _ _ _ _ _)
    refine AW.istore_n' (i := 3) (L' := [(3, zI 0), (2, zI x4), (0, zR (some 0)), (1, zI a1)]) (by decide +kernel) (by decide) rfl (?_ : AW _ _ _ _ 39 _ _ _ _ _ _)
    refine AW.iload_n (i := 2) (a := x4) (by decide +kernel) rfl (?_ : AW _ _ _ _ 40 _ _ _ _ _ _)
    refine AW.iconst (n := 1) (by decide +kernel) (?_ : AW _ _ _ _ 41 _ _ _ _ _ _)
    refine AW.iadd (by decide +kernel) (?_ : AW _ _ _ _ 42 _ _ _ _ _ _)
    refine AW.istoreL (i := 4) (L' := fun x5 => [(4, zI x5), (3, zI 0), (2, zI x4), (0, zR (some 0)), (1, zI a1)]) (by decide +kernel) (by decide) (fun _ => rfl) (fun x5 => (?_ : AW _ _ _ _ 44 _ _ _ _ _ _))
    refine AW.iconst (n := 0) (by decide +kernel) (?_ : AW _ _ _ _ 45 _ _ _ _ _ _)
    refine AW.istore' (i := 5) (L' := [(5, zI 0), (4, zI x5), (3, zI 0), (2, zI x4), (0, zR (some 0)), (1, zI a1)]) (by decide +kernel) (by decide) rfl (?_ : AW _ _ _ _ 47 _ _ _ _ _ _)
    refine AW.sub (L' := [(0, zR (some 0)), (1, zI a1), (2, zI x4), (3, zI 0), (4, zI x5), (5, zI 0)]) [4, 5, 3, 2, 1, 0] rfl ?_
    refine l_Model_curves_47 (fun k12 μ11 => ?_) zN _ _ _
    refine l_Model_curves_77 (fun k17 μ16 => ?_) zN _ _
    refine AW.iload_n (i := 1) (a := a1) (by decide +kernel) rfl (?_ : AW _ _ _ _ 102 _ _ _ _ _ _)
    refine AW.if_ne (off := 7) (tgt := 109) (by decide +kernel) (by decide) (fun _ => ?_) (fun _ => ?_)
    · refine AW.iload_n (i := 3) (a := k12) (by decide +kernel) rfl (?_ : AW _ _ _ _ 106 _ _ _ _ _ _)
      refine AW.goto (off := 15) (tgt := 121) (by decide +kernel) (by decide) ?_
      exact AW.reti (by decide +kernel) rfl (by decide) (by decide)
    · refine AW.iload (i := 4) (a := k17) (by decide +kernel) rfl (?_ : AW _ _ _ _ 111 _ _ _ _ _ _)
      refine AW.iload_n (i := 2) (a := x4) (by decide +kernel) rfl (?_ : AW _ _ _ _ 112 _ _ _ _ _ _)
      refine AW.icmp_le (off := 7) (tgt := 119) (by decide +kernel) (by decide) (fun _ => ?_) (fun _ => ?_)
      · refine AW.iload (i := 4) (a := k17) (by decide +kernel) rfl (?_ : AW _ _ _ _ 121 _ _ _ _ _ _)
        exact AW.reti (by decide +kernel) rfl (by decide) (by decide)
      · refine AW.iconst (n := -1) (by decide +kernel) (?_ : AW _ _ _ _ 116 _ _ _ _ _ _)
        refine AW.goto (off := 5) (tgt := 121) (by decide +kernel) (by decide) ?_
        exact AW.reti (by decide +kernel) rfl (by decide) (by decide)
  · refine AW.iconst (n := 0) (by decide +kernel) (?_ : AW _ _ _ _ 27 _ _ _ _ _ _)
    exact AW.reti (by decide +kernel) rfl (by decide) (by decide)
def F_Model_curves (a1 : Int) (μ : ZMem) : Option ZRes := zC (F_Model_isIn (w32 a1) 0 1 μ) (zkI (fun x2 _ => if w32 x2 = 0 then (J_Model_curves_16 a1 1 μ) else (J_Model_curves_16 a1 0 μ))) zX0
set_option maxRecDepth 100000 in
theorem w_Model_curves (a1 : Int) (μ : ZMem) : AW cf_Model_curves S_Model.length S_Model S_Model 0 [(0, zR (some 0)), (1, zI a1)] [] μ 0 0 (F_Model_curves a1 μ) := by
  unfold F_Model_curves
  refine AW.aload_n (i := 0) (a := 0) (by decide +kernel) rfl (?_ : AW _ _ _ _ 1 _ _ _ _ _ _)
  refine AW.iload_n (i := 1) (a := a1) (by decide +kernel) rfl (?_ : AW _ _ _ _ 2 _ _ _ _ _ _)
  refine AW.i2l (by decide +kernel) (?_ : AW _ _ _ _ 3 _ _ _ _ _ _)
  refine AW.lconst0 (by decide +kernel) (?_ : AW _ _ _ _ 4 _ _ _ _ _ _)
  refine AW.lconst1 (by decide +kernel) (?_ : AW _ _ _ _ 5 _ _ _ _ _ _)
  refine AW.callP (g := cf_Model_isIn) (av := [zJ (w32 a1), zJ 0, zJ 1]) (idx := 99) (n := 3) (st := [zR (some 0)]) (by decide +kernel) (fun l hl r hr => c_Model_isIn l hl (w32 a1) 0 1 _ r hr) rfl cal_Model_isIn rfl (zw3 zm_X9_99 zt_yX9_isIn zn_X9) ⟨by decide, by decide, by decide, by decide⟩ (Nat.le_of_ble_eq_true rfl) (fun v _ => AW.kI (fun x2 => (?_ : AW _ _ _ _ 8 _ _ _ _ _ _)) v)
  refine AW.if_eq (off := 7) (tgt := 15) (by decide +kernel) (by decide) (fun _ => ?_) (fun _ => ?_)
  · refine AW.iconst (n := 1) (by decide +kernel) (?_ : AW _ _ _ _ 16 _ _ _ _ _ _)
    exact j_Model_curves_16 a1 1 μ
  · refine AW.iconst (n := 0) (by decide +kernel) (?_ : AW _ _ _ _ 12 _ _ _ _ _ _)
    refine AW.goto (off := 4) (tgt := 16) (by decide +kernel) (by decide) ?_
    exact j_Model_curves_16 a1 0 μ
theorem c_Model_curves (l : Launch) (hl : l.stackTraces = false) (a1 : Int) (μ : ZMem) (r : ZRes) (h : F_Model_curves a1 μ = some r) : ZC l cf_Model_curves S_Model S_Model [zR (some 0), zI a1] μ r := ZC.of hl (by decide +kernel) rfl rfl zft_X9_ok (Nat.le_of_ble_eq_true rfl) h (w_Model_curves a1 μ)
/-! WeirLedgerModel.rate(I)I -/
def cf_Model_rate : ZCf := (yX9_rate, cX9_rate, 6, some .int, [], 3, 0, 0, zft_X9, none)
theorem cal_Model_rate : zCallee cf_Model_rate 1 := ⟨rfl, zc_yX9_rate, by decide, by decide, by decide +kernel⟩
def L_Model_rate_56 (c1 : Int) (c2 : Int) (K : UInt64 → ZMem → Option ZRes) : Nat → UInt64 → Int → ZMem → Option ZRes
  | 0, _, _, _ => none
  | n + 1, v3, v5, μ => if w32 v5 < 0 then (K v3 μ) else (zddiv (zi2d c2) (4666723172467343360 : UInt64) (fun d5 => zdadd FP.dconst1 d5 (fun d6 => zddiv v3 d6 (fun d7 => zC (F_Model_flowIn c1 v5 μ) (zkJ (fun x9 μ8 => zdadd d7 (zl2d x9) (fun d10 => zLet (v5 + (-1)) (fun x11 => L_Model_rate_56 c1 c2 K n d10 x11 μ8)))) zX0))))
set_option maxRecDepth 100000 in
theorem l_Model_rate_56 {c1 : Int} {c2 : Int} {K : UInt64 → ZMem → Option ZRes} (hK : ∀ (k3 : UInt64) (μ : ZMem), AW cf_Model_rate S_Model.length S_Model S_Model 87 [(0, zR (some 0)), (1, zI c1), (2, zI c2), (3, zD k3)] [] μ 0 0 (K k3 μ)) : ∀ (n : Nat) (v3 : UInt64) (v5 : Int) (μ : ZMem), AW cf_Model_rate S_Model.length S_Model S_Model 56 [(0, zR (some 0)), (1, zI c1), (2, zI c2), (3, zD v3), (5, zI v5)] [] μ 0 0 (L_Model_rate_56 c1 c2 K n v3 v5 μ) := by
  intro n
  induction n with
  | zero => intro v3 v5 μ; exact AW.noth
  | succ n ih =>
    intro v3 v5 μ
    rw [L_Model_rate_56]
    refine AW.iload (i := 5) (a := v5) (by decide +kernel) rfl (?_ : AW _ _ _ _ 58 _ _ _ _ _ _)
    refine AW.if_lt (off := 29) (tgt := 87) (by decide +kernel) (by decide) (fun _ => ?_) (fun _ => ?_)
    · refine AW.sub (L' := [(0, zR (some 0)), (1, zI c1), (2, zI c2), (3, zD v3)]) [0, 1, 2, 3] rfl ?_
      exact hK v3 μ
    · refine AW.dload_n (i := 3) (a := v3) (by decide +kernel) rfl (?_ : AW _ _ _ _ 62 _ _ _ _ _ _)
      refine AW.dconst1 (by decide +kernel) (?_ : AW _ _ _ _ 63 _ _ _ _ _ _)
      refine AW.iload_n (i := 2) (a := c2) (by decide +kernel) rfl (?_ : AW _ _ _ _ 64 _ _ _ _ _ _)
      refine AW.i2d (by decide +kernel) (?_ : AW _ _ _ _ 65 _ _ _ _ _ _)
      refine AW.ldc2d (idx := 432) (v := 4666723172467343360) (by decide +kernel) zk_X9_432 (?_ : AW _ _ _ _ 68 _ _ _ _ _ _)
      refine AW.ddiv_if (by decide +kernel) (fun d5 => (?_ : AW _ _ _ _ 69 _ _ _ _ _ _))
      refine AW.dadd_if (by decide +kernel) (fun d6 => (?_ : AW _ _ _ _ 70 _ _ _ _ _ _))
      refine AW.ddiv_if (by decide +kernel) (fun d7 => (?_ : AW _ _ _ _ 71 _ _ _ _ _ _))
      refine AW.aload_n (i := 0) (a := 0) (by decide +kernel) rfl (?_ : AW _ _ _ _ 72 _ _ _ _ _ _)
      refine AW.iload_n (i := 1) (a := c1) (by decide +kernel) rfl (?_ : AW _ _ _ _ 73 _ _ _ _ _ _)
      refine AW.iload (i := 5) (a := v5) (by decide +kernel) rfl (?_ : AW _ _ _ _ 75 _ _ _ _ _ _)
      refine AW.callVw (g := cf_Model_flowIn) (av := [zI c1, zI v5]) (b0 := 0) (ci := 9) (idx := 426) (n := 2) (st := [zD d7]) (by decide +kernel) (fun l hl r hr => c_Model_flowIn l hl c1 v5 _ r hr) S_Model_wf rfl cal_Model_flowIn rfl (zw4 zm_X9_426 zi_yX9_flowIn zs_yX9_flowIn zn_X9) rfl rfl ⟨by decide, by decide, by decide, by decide⟩ (Nat.le_of_ble_eq_true rfl) (Or.inl rfl) (fun v μ8 => AW.kJ (fun x9 => (?_ : AW _ _ _ _ 78 _ _ _ _ _ _)) v)
      refine AW.l2d (by decide +kernel) (?_ : AW _ _ _ _ 79 _ _ _ _ _ _)
      refine AW.dadd_if (by decide +kernel) (fun d10 => (?_ : AW _ _ _ _ 80 _ _ _ _ _ _))
      refine AW.dstore_n' (i := 3) (L' := [(3, zD d10), (0, zR (some 0)), (1, zI c1), (2, zI c2), (5, zI v5)]) (by decide +kernel) (by decide) rfl (?_ : AW _ _ _ _ 81 _ _ _ _ _ _)
      refine AW.iincL (i := 5) (n := -1) (a := v5) (L' := fun x11 => [(5, zI x11), (3, zD d10), (0, zR (some 0)), (1, zI c1), (2, zI c2)]) (by decide +kernel) rfl (by decide) (fun _ => rfl) (fun x11 => (?_ : AW _ _ _ _ 84 _ _ _ _ _ _))
      refine AW.goto (off := -28) (tgt := 56) (by decide +kernel) (by decide) ?_
      refine AW.sub (L' := [(0, zR (some 0)), (1, zI c1), (2, zI c2), (3, zD d10), (5, zI x11)]) [2, 3, 4, 1, 0] rfl ?_
      exact ih d10 x11 μ8
def L_Model_rate_40 (c1 : Int) (K : ZMem → Option ZRes) : Nat → Int → ZMem → Option ZRes
  | 0, _, _ => none
  | n + 1, v2, μ => if w32 v2 < 0 then (K  μ) else (zRd μ 5 92 90 (fun x4 => L_Model_rate_56 c1 v2 (fun k13 μ12 => if w32 (zdcmp .l k13 FP.dconst0) < 0 then (zLet (v2 + (-1)) (fun x14 => L_Model_rate_40 c1 K n x14 μ12)) else (some (.inr (some (zI v2)), μ12))) zN FP.dconst0 x4 μ))
set_option maxRecDepth 100000 in
theorem l_Model_rate_40 {c1 : Int} {K : ZMem → Option ZRes} (hK : ∀ (μ : ZMem), AW cf_Model_rate S_Model.length S_Model S_Model 101 [] [] μ 0 0 (K μ)) : ∀ (n : Nat) (v2 : Int) (μ : ZMem), AW cf_Model_rate S_Model.length S_Model S_Model 40 [(0, zR (some 0)), (1, zI c1), (2, zI v2)] [] μ 0 0 (L_Model_rate_40 c1 K n v2 μ) := by
  intro n
  induction n with
  | zero => intro v2 μ; exact AW.noth
  | succ n ih =>
    intro v2 μ
    rw [L_Model_rate_40]
    refine AW.iload_n (i := 2) (a := v2) (by decide +kernel) rfl (?_ : AW _ _ _ _ 41 _ _ _ _ _ _)
    refine AW.if_lt (off := 60) (tgt := 101) (by decide +kernel) (by decide) (fun _ => ?_) (fun _ => ?_)
    · refine AW.sub (L' := []) [] rfl ?_
      exact hK  μ
    · refine AW.dconst0 (by decide +kernel) (?_ : AW _ _ _ _ 45 _ _ _ _ _ _)
      refine AW.dstore_n' (i := 3) (L' := [(3, zD FP.dconst0), (0, zR (some 0)), (1, zI c1), (2, zI v2)]) (by decide +kernel) (by decide) rfl (?_ : AW _ _ _ _ 46 _ _ _ _ _ _)
      refine AW.aload_n (i := 0) (a := 0) (by decide +kernel) rfl (?_ : AW _ _ _ _ 47 _ _ _ _ _ _)
      refine AW.getR (idx := 22) (ci := 9) (k := 7) (r := 0) (by decide +kernel) rfl rfl rfl (?_ : AW _ _ _ _ 50 _ _ _ _ _ _)
      refine AW.bipush (n := 90) (by decide +kernel) (by decide +kernel) (?_ : AW _ _ _ _ 52 _ _ _ _ _ _)
      refine AW.lald (r := 5) (by decide +kernel) rfl (fun x4 => (?_ : AW _ _ _ _ 53 _ _ _ _ _ _))
      refine AW.l2i (by decide +kernel) (?_ : AW _ _ _ _ 54 _ _ _ _ _ _)
      refine AW.istore' (i := 5) (L' := [(5, zI x4), (3, zD FP.dconst0), (0, zR (some 0)), (1, zI c1), (2, zI v2)]) (by decide +kernel) (by decide) rfl (?_ : AW _ _ _ _ 56 _ _ _ _ _ _)
      refine AW.sub (L' := [(0, zR (some 0)), (1, zI c1), (2, zI v2), (3, zD FP.dconst0), (5, zI x4)]) [2, 3, 4, 1, 0] rfl ?_
      refine l_Model_rate_56 (fun k13 μ12 => ?_) zN _ _ _
      refine AW.dload_n (i := 3) (a := k13) (by decide +kernel) rfl (?_ : AW _ _ _ _ 88 _ _ _ _ _ _)
      refine AW.dconst0 (by decide +kernel) (?_ : AW _ _ _ _ 89 _ _ _ _ _ _)
      refine AW.dcmp (op := .l) (by decide +kernel) (?_ : AW _ _ _ _ 90 _ _ _ _ _ _)
      refine AW.if_lt (off := 5) (tgt := 95) (by decide +kernel) (by decide) (fun _ => ?_) (fun _ => ?_)
      · refine AW.iincL (i := 2) (n := -1) (a := v2) (L' := fun x14 => [(2, zI x14), (0, zR (some 0)), (1, zI c1), (3, zD k13)]) (by decide +kernel) rfl (by decide) (fun _ => rfl) (fun x14 => (?_ : AW _ _ _ _ 98 _ _ _ _ _ _))
        refine AW.goto (off := -58) (tgt := 40) (by decide +kernel) (by decide) ?_
        refine AW.sub (L' := [(0, zR (some 0)), (1, zI c1), (2, zI x14)]) [1, 2, 0] rfl ?_
        exact ih x14 μ12
      · refine AW.iload_n (i := 2) (a := v2) (by decide +kernel) rfl (?_ : AW _ _ _ _ 94 _ _ _ _ _ _)
        exact AW.reti (by decide +kernel) rfl (by decide) (by decide)
def J_Model_rate_24 (a1 : Int) (y0 : Int) (μ : ZMem) : Option ZRes := zLet (zUp μ 0 0 y0) (fun μ3 => if w32 (μ3 0 0) ≤ 0 then (L_Model_rate_40 a1 (fun μ15 => some (.inr (some (zI (-1))), μ15)) zN 999 μ3) else (some (.inr (some (zI 0)), μ3)))
set_option maxRecDepth 100000 in
theorem j_Model_rate_24 (a1 : Int) (y0 : Int) (μ : ZMem) : AW cf_Model_rate S_Model.length S_Model S_Model 24 [(0, zR (some 0)), (1, zI a1)] [zI y0, zR (some 0)] μ 0 0 (J_Model_rate_24 a1 y0 μ) := by
  unfold J_Model_rate_24
  refine AW.putiL (idx := 93) (ci := 9) (k := 0) (r := 0) (by decide +kernel) rfl rfl rfl (fun μ3 => (?_ : AW _ _ _ _ 27 _ _ _ _ _ _))
  refine AW.aload_n (i := 0) (a := 0) (by decide +kernel) rfl (?_ : AW _ _ _ _ 28 _ _ _ _ _ _)
  refine AW.getI (idx := 93) (ci := 9) (k := 0) (r := 0) (by decide +kernel) rfl rfl rfl (?_ : AW _ _ _ _ 31 _ _ _ _ _ _)
  refine AW.if_le (off := 5) (tgt := 36) (by decide +kernel) (by decide) (fun _ => ?_) (fun _ => ?_)
  · refine AW.sipush (n := 999) (by decide +kernel) (by decide +kernel) (?_ : AW _ _ _ _ 39 _ _ _ _ _ _)
    refine AW.istore_n' (i := 2) (L' := [(2, zI 999), (0, zR (some 0)), (1, zI a1)]) (by decide +kernel) (by decide) rfl (?_ : AW _ _ _ _ 40 _ _ _ _ _ _)
    refine AW.sub (L' := [(0, zR (some 0)), (1, zI a1), (2, zI 999)]) [1, 2, 0] rfl ?_
    refine l_Model_rate_40 (fun μ15 => ?_) zN _ _
    refine AW.iconst (n := -1) (by decide +kernel) (?_ : AW _ _ _ _ 102 _ _ _ _ _ _)
    exact AW.reti (by decide +kernel) rfl (by decide) (by decide)
  · refine AW.iconst (n := 0) (by decide +kernel) (?_ : AW _ _ _ _ 35 _ _ _ _ _ _)
    exact AW.reti (by decide +kernel) rfl (by decide) (by decide)
def F_Model_rate (a1 : Int) (μ : ZMem) : Option ZRes := zC (F_Model_isIn (w32 a1) (-1) (w32 ((μ 0 5) - 1)) μ) (zkI (fun x2 _ => if w32 x2 = 0 then (J_Model_rate_24 a1 1 μ) else (J_Model_rate_24 a1 0 μ))) zX0
set_option maxRecDepth 100000 in
theorem w_Model_rate (a1 : Int) (μ : ZMem) : AW cf_Model_rate S_Model.length S_Model S_Model 0 [(0, zR (some 0)), (1, zI a1)] [] μ 0 0 (F_Model_rate a1 μ) := by
  unfold F_Model_rate
  refine AW.aload_n (i := 0) (a := 0) (by decide +kernel) rfl (?_ : AW _ _ _ _ 1 _ _ _ _ _ _)
  refine AW.iload_n (i := 1) (a := a1) (by decide +kernel) rfl (?_ : AW _ _ _ _ 2 _ _ _ _ _ _)
  refine AW.i2l (by decide +kernel) (?_ : AW _ _ _ _ 3 _ _ _ _ _ _)
  refine AW.ldc2 (idx := 127) (v := -1) (by decide +kernel) zk_X9_127 (?_ : AW _ _ _ _ 6 _ _ _ _ _ _)
  refine AW.aload_n (i := 0) (a := 0) (by decide +kernel) rfl (?_ : AW _ _ _ _ 7 _ _ _ _ _ _)
  refine AW.getI (idx := 96) (ci := 9) (k := 5) (r := 0) (by decide +kernel) rfl rfl rfl (?_ : AW _ _ _ _ 10 _ _ _ _ _ _)
  refine AW.iconst (n := 1) (by decide +kernel) (?_ : AW _ _ _ _ 11 _ _ _ _ _ _)
  refine AW.isub (by decide +kernel) (?_ : AW _ _ _ _ 12 _ _ _ _ _ _)
  refine AW.i2l (by decide +kernel) (?_ : AW _ _ _ _ 13 _ _ _ _ _ _)
  refine AW.callP (g := cf_Model_isIn) (av := [zJ (w32 a1), zJ (-1), zJ (w32 ((μ 0 5) - 1))]) (idx := 99) (n := 3) (st := [zR (some 0)]) (by decide +kernel) (fun l hl r hr => c_Model_isIn l hl (w32 a1) (-1) (w32 ((μ 0 5) - 1)) _ r hr) rfl cal_Model_isIn rfl (zw3 zm_X9_99 zt_yX9_isIn zn_X9) ⟨by decide, by decide, by decide, by decide⟩ (Nat.le_of_ble_eq_true rfl) (fun v _ => AW.kI (fun x2 => (?_ : AW _ _ _ _ 16 _ _ _ _ _ _)) v)
  refine AW.if_eq (off := 7) (tgt := 23) (by decide +kernel) (by decide) (fun _ => ?_) (fun _ => ?_)
  · refine AW.iconst (n := 1) (by decide +kernel) (?_ : AW _ _ _ _ 24 _ _ _ _ _ _)
    exact j_Model_rate_24 a1 1 μ
  · refine AW.iconst (n := 0) (by decide +kernel) (?_ : AW _ _ _ _ 20 _ _ _ _ _ _)
    refine AW.goto (off := 4) (tgt := 24) (by decide +kernel) (by decide) ?_
    exact j_Model_rate_24 a1 0 μ
theorem c_Model_rate (l : Launch) (hl : l.stackTraces = false) (a1 : Int) (μ : ZMem) (r : ZRes) (h : F_Model_rate a1 μ = some r) : ZC l cf_Model_rate S_Model S_Model [zR (some 0), zI a1] μ r := ZC.of hl (by decide +kernel) rfl rfl zft_X9_ok (Nat.le_of_ble_eq_true rfl) h (w_Model_rate a1 μ)
/-! WeirLedgerModel.multiple(I)I -/
def cf_Model_multiple : ZCf := (yX9_multiple, cX9_multiple, 7, some .int, [], 3, 0, 0, zft_X9, none)
theorem cal_Model_multiple : zCallee cf_Model_multiple 1 := ⟨rfl, zc_yX9_multiple, by decide, by decide, by decide +kernel⟩
def J_Model_multiple_97 (R : Int → Int → Int → Option ZRes) (K : Int → Int → Option ZRes) (c1 : Int) (u2 : Int) (u4 : Int) (u6 : Int) (μ : ZMem) : Option ZRes := zLet (u6 + 1) (fun x12 => R u2 u4 x12)
set_option maxRecDepth 100000 in
theorem j_Model_multiple_97 {R : Int → Int → Int → Option ZRes} {K : Int → Int → Option ZRes} (μ : ZMem) (c1 : Int) (hR : ∀ (v2 : Int) (v4 : Int) (v6 : Int), AW cf_Model_multiple S_Model.length S_Model S_Model 44 [(0, zR (some 0)), (1, zI c1), (2, zJ v2), (4, zJ v4), (6, zI v6)] [] μ 0 0 (R v2 v4 v6)) (hK : ∀ (k2 : Int) (k4 : Int), AW cf_Model_multiple S_Model.length S_Model S_Model 103 [(2, zJ k2), (4, zJ k4)] [] μ 0 0 (K k2 k4)) (u2 : Int) (u4 : Int) (u6 : Int) : AW cf_Model_multiple S_Model.length S_Model S_Model 97 [(0, zR (some 0)), (1, zI c1), (2, zJ u2), (4, zJ u4), (6, zI u6)] [] μ 0 0 (J_Model_multiple_97 R K c1 u2 u4 u6 μ) := by
  unfold J_Model_multiple_97
  refine AW.iincL (i := 6) (n := 1) (a := u6) (L' := fun x12 => [(6, zI x12), (0, zR (some 0)), (1, zI c1), (2, zJ u2), (4, zJ u4)]) (by decide +kernel) rfl (by decide) (fun _ => rfl) (fun x12 => (?_ : AW _ _ _ _ 100 _ _ _ _ _ _))
  refine AW.goto (off := -56) (tgt := 44) (by decide +kernel) (by decide) ?_
  refine AW.sub (L' := [(0, zR (some 0)), (1, zI c1), (2, zJ u2), (4, zJ u4), (6, zI x12)]) [1, 2, 3, 4, 0] rfl ?_
  exact hR u2 u4 x12
def J_Model_multiple_67 (R : Int → Int → Int → Option ZRes) (K : Int → Int → Option ZRes) (c1 : Int) (u2 : Int) (u4 : Int) (u6 : Int) (μ : ZMem) : Option ZRes := zC (F_Model_placeOf u6 3 μ) (zkI (fun x5 _ => zRd μ 5 92 x5 (fun x6 => zLet ((u2 + x6)) (fun x7 => zC (F_Model_placeOf u6 2 μ) (zkI (fun x9 _ => zRd μ 5 92 x9 (fun x10 => zLet ((u4 + x10)) (fun x11 => J_Model_multiple_97 R K c1 x7 x11 u6 μ)))) zX0)))) zX0
set_option maxRecDepth 100000 in
theorem j_Model_multiple_67 {R : Int → Int → Int → Option ZRes} {K : Int → Int → Option ZRes} (μ : ZMem) (c1 : Int) (hR : ∀ (v2 : Int) (v4 : Int) (v6 : Int), AW cf_Model_multiple S_Model.length S_Model S_Model 44 [(0, zR (some 0)), (1, zI c1), (2, zJ v2), (4, zJ v4), (6, zI v6)] [] μ 0 0 (R v2 v4 v6)) (hK : ∀ (k2 : Int) (k4 : Int), AW cf_Model_multiple S_Model.length S_Model S_Model 103 [(2, zJ k2), (4, zJ k4)] [] μ 0 0 (K k2 k4)) (u2 : Int) (u4 : Int) (u6 : Int) : AW cf_Model_multiple S_Model.length S_Model S_Model 67 [(0, zR (some 0)), (1, zI c1), (2, zJ u2), (4, zJ u4), (6, zI u6)] [] μ 0 0 (J_Model_multiple_67 R K c1 u2 u4 u6 μ) := by
  unfold J_Model_multiple_67
  refine AW.lload_n (i := 2) (a := u2) (by decide +kernel) rfl (?_ : AW _ _ _ _ 68 _ _ _ _ _ _)
  refine AW.aload_n (i := 0) (a := 0) (by decide +kernel) rfl (?_ : AW _ _ _ _ 69 _ _ _ _ _ _)
  refine AW.getR (idx := 22) (ci := 9) (k := 7) (r := 0) (by decide +kernel) rfl rfl rfl (?_ : AW _ _ _ _ 72 _ _ _ _ _ _)
  refine AW.iload (i := 6) (a := u6) (by decide +kernel) rfl (?_ : AW _ _ _ _ 74 _ _ _ _ _ _)
  refine AW.iconst (n := 3) (by decide +kernel) (?_ : AW _ _ _ _ 75 _ _ _ _ _ _)
  refine AW.callP (g := cf_Model_placeOf) (av := [zI u6, zI 3]) (idx := 110) (n := 2) (st := [zR (some 5), zJ u2]) (by decide +kernel) (fun l hl r hr => c_Model_placeOf l hl u6 3 _ r hr) rfl cal_Model_placeOf rfl (zw3 zm_X9_110 zt_yX9_placeOf zn_X9) ⟨by decide, by decide, by decide, by decide⟩ (Nat.le_of_ble_eq_true rfl) (fun v _ => AW.kI (fun x5 => (?_ : AW _ _ _ _ 78 _ _ _ _ _ _)) v)
  refine AW.lald (r := 5) (by decide +kernel) rfl (fun x6 => (?_ : AW _ _ _ _ 79 _ _ _ _ _ _))
  refine AW.ladd (by decide +kernel) (?_ : AW _ _ _ _ 80 _ _ _ _ _ _)
  refine AW.lstoreL_n (i := 2) (L' := fun x7 => [(2, zJ x7), (0, zR (some 0)), (1, zI c1), (4, zJ u4), (6, zI u6)]) (by decide +kernel) (by decide) (fun _ => rfl) (fun x7 => (?_ : AW _ _ _ _ 81 _ _ _ _ _ _))
  refine AW.lload (i := 4) (a := u4) (by decide +kernel) rfl (?_ : AW _ _ _ _ 83 _ _ _ _ _ _)
  refine AW.aload_n (i := 0) (a := 0) (by decide +kernel) rfl (?_ : AW _ _ _ _ 84 _ _ _ _ _ _)
  refine AW.getR (idx := 22) (ci := 9) (k := 7) (r := 0) (by decide +kernel) rfl rfl rfl (?_ : AW _ _ _ _ 87 _ _ _ _ _ _)
  refine AW.iload (i := 6) (a := u6) (by decide +kernel) rfl (?_ : AW _ _ _ _ 89 _ _ _ _ _ _)
  refine AW.iconst (n := 2) (by decide +kernel) (?_ : AW _ _ _ _ 90 _ _ _ _ _ _)
  refine AW.callP (g := cf_Model_placeOf) (av := [zI u6, zI 2]) (idx := 110) (n := 2) (st := [zR (some 5), zJ u4]) (by decide +kernel) (fun l hl r hr => c_Model_placeOf l hl u6 2 _ r hr) rfl cal_Model_placeOf rfl (zw3 zm_X9_110 zt_yX9_placeOf zn_X9) ⟨by decide, by decide, by decide, by decide⟩ (Nat.le_of_ble_eq_true rfl) (fun v _ => AW.kI (fun x9 => (?_ : AW _ _ _ _ 93 _ _ _ _ _ _)) v)
  refine AW.lald (r := 5) (by decide +kernel) rfl (fun x10 => (?_ : AW _ _ _ _ 94 _ _ _ _ _ _))
  refine AW.ladd (by decide +kernel) (?_ : AW _ _ _ _ 95 _ _ _ _ _ _)
  refine AW.lstoreL (i := 4) (L' := fun x11 => [(4, zJ x11), (2, zJ x7), (0, zR (some 0)), (1, zI c1), (6, zI u6)]) (by decide +kernel) (by decide) (fun _ => rfl) (fun x11 => (?_ : AW _ _ _ _ 97 _ _ _ _ _ _))
  refine AW.sub (L' := [(0, zR (some 0)), (1, zI c1), (2, zJ x7), (4, zJ x11), (6, zI u6)]) [2, 3, 1, 0, 4] rfl ?_
  exact j_Model_multiple_97 μ c1 hR hK x7 x11 u6
def L_Model_multiple_44 (c1 : Int) (μ : ZMem) (K : Int → Int → Option ZRes) : Nat → Int → Int → Int → Option ZRes
  | 0, _, _, _ => none
  | n + 1, v2, v4, v6 => if w32 (μ 0 5) ≤ w32 v6 then (K v2 v4) else (if w32 c1 = w32 (-1) then (J_Model_multiple_67 (fun v2 v4 v6 => L_Model_multiple_44 c1 μ K n v2 v4 v6) K c1 v2 v4 v6 μ) else (if w32 v6 = w32 c1 then (J_Model_multiple_67 (fun v2 v4 v6 => L_Model_multiple_44 c1 μ K n v2 v4 v6) K c1 v2 v4 v6 μ) else (J_Model_multiple_97 (fun v2 v4 v6 => L_Model_multiple_44 c1 μ K n v2 v4 v6) K c1 v2 v4 v6 μ)))
set_option maxRecDepth 100000 in
theorem l_Model_multiple_44 {c1 : Int} {μ : ZMem} {K : Int → Int → Option ZRes} (hK : ∀ (k2 : Int) (k4 : Int), AW cf_Model_multiple S_Model.length S_Model S_Model 103 [(2, zJ k2), (4, zJ k4)] [] μ 0 0 (K k2 k4)) : ∀ (n : Nat) (v2 : Int) (v4 : Int) (v6 : Int), AW cf_Model_multiple S_Model.length S_Model S_Model 44 [(0, zR (some 0)), (1, zI c1), (2, zJ v2), (4, zJ v4), (6, zI v6)] [] μ 0 0 (L_Model_multiple_44 c1 μ K n v2 v4 v6) := by
  intro n
  induction n with
  | zero => intro v2 v4 v6; exact AW.noth
  | succ n ih =>
    intro v2 v4 v6
    rw [L_Model_multiple_44]
    refine AW.iload (i := 6) (a := v6) (by decide +kernel) rfl (?_ : AW _ _ _ _ 46 _ _ _ _ _ _)
    refine AW.aload_n (i := 0) (a := 0) (by decide +kernel) rfl (?_ : AW _ _ _ _ 47 _ _ _ _ _ _)
    refine AW.getI (idx := 96) (ci := 9) (k := 5) (r := 0) (by decide +kernel) rfl rfl rfl (?_ : AW _ _ _ _ 50 _ _ _ _ _ _)
    refine AW.icmp_ge (off := 53) (tgt := 103) (by decide +kernel) (by decide) (fun _ => ?_) (fun _ => ?_)
    · refine AW.sub (L' := [(2, zJ v2), (4, zJ v4)]) [2, 3] rfl ?_
      exact hK v2 v4
    · refine AW.iload_n (i := 1) (a := c1) (by decide +kernel) rfl (?_ : AW _ _ _ _ 54 _ _ _ _ _ _)
      refine AW.iconst (n := -1) (by decide +kernel) (?_ : AW _ _ _ _ 55 _ _ _ _ _ _)
      refine AW.icmp_eq (off := 12) (tgt := 67) (by decide +kernel) (by decide) (fun _ => ?_) (fun _ => ?_)
      · exact j_Model_multiple_67 μ c1 ih hK v2 v4 v6
      · refine AW.iload (i := 6) (a := v6) (by decide +kernel) rfl (?_ : AW _ _ _ _ 60 _ _ _ _ _ _)
        refine AW.iload_n (i := 1) (a := c1) (by decide +kernel) rfl (?_ : AW _ _ _ _ 61 _ _ _ _ _ _)
        refine AW.icmp_eq (off := 6) (tgt := 67) (by decide +kernel) (by decide) (fun _ => ?_) (fun _ => ?_)
        · exact j_Model_multiple_67 μ c1 ih hK v2 v4 v6
        · refine AW.goto (off := 33) (tgt := 97) (by decide +kernel) (by decide) ?_
          exact j_Model_multiple_97 μ c1 ih hK v2 v4 v6
def J_Model_multiple_24 (a1 : Int) (y0 : Int) (μ : ZMem) : Option ZRes := zLet (zUp μ 0 0 y0) (fun μ3 => if w32 (μ3 0 0) ≤ 0 then (L_Model_multiple_44 a1 μ3 (fun k13 k14 => if w64 k14 = w64 0 then (some (.inr (some (zI (-1))), μ3)) else (zfdiv (zl2f k13) (zl2f k14) (fun d15 => zfmul d15 (1148846080 : UInt32) (fun d16 => some (.inr (some (zI (zf2i d16))), μ3))))) zN 0 0 0) else (some (.inr (some (zI 0)), μ3)))
set_option maxRecDepth 100000 in
theorem j_Model_multiple_24 (a1 : Int) (y0 : Int) (μ : ZMem) : AW cf_Model_multiple S_Model.length S_Model S_Model 24 [(0, zR (some 0)), (1, zI a1)] [zI y0, zR (some 0)] μ 0 0 (J_Model_multiple_24 a1 y0 μ) := by
  unfold J_Model_multiple_24
  refine AW.putiL (idx := 93) (ci := 9) (k := 0) (r := 0) (by decide +kernel) rfl rfl rfl (fun μ3 => (?_ : AW _ _ _ _ 27 _ _ _ _ _ _))
  refine AW.aload_n (i := 0) (a := 0) (by decide +kernel) rfl (?_ : AW _ _ _ _ 28 _ _ _ _ _ _)
  refine AW.getI (idx := 93) (ci := 9) (k := 0) (r := 0) (by decide +kernel) rfl rfl rfl (?_ : AW _ _ _ _ 31 _ _ _ _ _ _)
  refine AW.if_le (off := 5) (tgt := 36) (by decide +kernel) (by decide) (fun _ => ?_) (fun _ => ?_)
  · refine AW.lconst0 (by decide +kernel) (?_ : AW _ _ _ _ 37 _ _ _ _ _ _)
    refine AW.lstore_n' (i := 2) (L' := [(2, zJ 0), (0, zR (some 0)), (1, zI a1)]) (by decide +kernel) (by decide) rfl (?_ : AW _ _ _ _ 38 _ _ _ _ _ _)
    refine AW.lconst0 (by decide +kernel) (?_ : AW _ _ _ _ 39 _ _ _ _ _ _)
    refine AW.lstore' (i := 4) (L' := [(4, zJ 0), (2, zJ 0), (0, zR (some 0)), (1, zI a1)]) (by decide +kernel) (by decide) rfl (?_ : AW _ _ _ _ 41 _ _ _ _ _ _)
    refine AW.iconst (n := 0) (by decide +kernel) (?_ : AW _ _ _ _ 42 _ _ _ _ _ _)
    refine AW.istore' (i := 6) (L' := [(6, zI 0), (4, zJ 0), (2, zJ 0), (0, zR (some 0)), (1, zI a1)]) (by decide +kernel) (by decide) rfl (?_ : AW _ _ _ _ 44 _ _ _ _ _ _)
    refine AW.sub (L' := [(0, zR (some 0)), (1, zI a1), (2, zJ 0), (4, zJ 0), (6, zI 0)]) [3, 4, 2, 1, 0] rfl ?_
    refine l_Model_multiple_44 (fun k13 k14 => ?_) zN _ _ _
    refine AW.lload (i := 4) (a := k14) (by decide +kernel) rfl (?_ : AW _ _ _ _ 105 _ _ _ _ _ _)
    refine AW.lconst0 (by decide +kernel) (?_ : AW _ _ _ _ 106 _ _ _ _ _ _)
    refine AW.lcmp_ne (off := 7) (tgt := 114) (by decide +kernel) (by decide +kernel) (by decide) (fun _ => ?_) (fun _ => ?_)
    · refine AW.iconst (n := -1) (by decide +kernel) (?_ : AW _ _ _ _ 111 _ _ _ _ _ _)
      refine AW.goto (off := 14) (tgt := 125) (by decide +kernel) (by decide) ?_
      exact AW.reti (by decide +kernel) rfl (by decide) (by decide)
    · refine AW.lload_n (i := 2) (a := k13) (by decide +kernel) rfl (?_ : AW _ _ _ _ 115 _ _ _ _ _ _)
      refine AW.l2f (by decide +kernel) (?_ : AW _ _ _ _ 116 _ _ _ _ _ _)
      refine AW.lload (i := 4) (a := k14) (by decide +kernel) rfl (?_ : AW _ _ _ _ 118 _ _ _ _ _ _)
      refine AW.l2f (by decide +kernel) (?_ : AW _ _ _ _ 119 _ _ _ _ _ _)
      refine AW.fdiv_if (by decide +kernel) (fun d15 => (?_ : AW _ _ _ _ 120 _ _ _ _ _ _))
      refine AW.ldcwf (idx := 434) (v := 1148846080) (by decide +kernel) zk_X9_434 (?_ : AW _ _ _ _ 123 _ _ _ _ _ _)
      refine AW.fmul_if (by decide +kernel) (fun d16 => (?_ : AW _ _ _ _ 124 _ _ _ _ _ _))
      refine AW.f2i (by decide +kernel) (?_ : AW _ _ _ _ 125 _ _ _ _ _ _)
      exact AW.reti (by decide +kernel) rfl (by decide) (by decide)
  · refine AW.iconst (n := 0) (by decide +kernel) (?_ : AW _ _ _ _ 35 _ _ _ _ _ _)
    exact AW.reti (by decide +kernel) rfl (by decide) (by decide)
def F_Model_multiple (a1 : Int) (μ : ZMem) : Option ZRes := zC (F_Model_isIn (w32 a1) (-1) (w32 ((μ 0 5) - 1)) μ) (zkI (fun x2 _ => if w32 x2 = 0 then (J_Model_multiple_24 a1 1 μ) else (J_Model_multiple_24 a1 0 μ))) zX0
set_option maxRecDepth 100000 in
theorem w_Model_multiple (a1 : Int) (μ : ZMem) : AW cf_Model_multiple S_Model.length S_Model S_Model 0 [(0, zR (some 0)), (1, zI a1)] [] μ 0 0 (F_Model_multiple a1 μ) := by
  unfold F_Model_multiple
  refine AW.aload_n (i := 0) (a := 0) (by decide +kernel) rfl (?_ : AW _ _ _ _ 1 _ _ _ _ _ _)
  refine AW.iload_n (i := 1) (a := a1) (by decide +kernel) rfl (?_ : AW _ _ _ _ 2 _ _ _ _ _ _)
  refine AW.i2l (by decide +kernel) (?_ : AW _ _ _ _ 3 _ _ _ _ _ _)
  refine AW.ldc2 (idx := 127) (v := -1) (by decide +kernel) zk_X9_127 (?_ : AW _ _ _ _ 6 _ _ _ _ _ _)
  refine AW.aload_n (i := 0) (a := 0) (by decide +kernel) rfl (?_ : AW _ _ _ _ 7 _ _ _ _ _ _)
  refine AW.getI (idx := 96) (ci := 9) (k := 5) (r := 0) (by decide +kernel) rfl rfl rfl (?_ : AW _ _ _ _ 10 _ _ _ _ _ _)
  refine AW.iconst (n := 1) (by decide +kernel) (?_ : AW _ _ _ _ 11 _ _ _ _ _ _)
  refine AW.isub (by decide +kernel) (?_ : AW _ _ _ _ 12 _ _ _ _ _ _)
  refine AW.i2l (by decide +kernel) (?_ : AW _ _ _ _ 13 _ _ _ _ _ _)
  refine AW.callP (g := cf_Model_isIn) (av := [zJ (w32 a1), zJ (-1), zJ (w32 ((μ 0 5) - 1))]) (idx := 99) (n := 3) (st := [zR (some 0)]) (by decide +kernel) (fun l hl r hr => c_Model_isIn l hl (w32 a1) (-1) (w32 ((μ 0 5) - 1)) _ r hr) rfl cal_Model_isIn rfl (zw3 zm_X9_99 zt_yX9_isIn zn_X9) ⟨by decide, by decide, by decide, by decide⟩ (Nat.le_of_ble_eq_true rfl) (fun v _ => AW.kI (fun x2 => (?_ : AW _ _ _ _ 16 _ _ _ _ _ _)) v)
  refine AW.if_eq (off := 7) (tgt := 23) (by decide +kernel) (by decide) (fun _ => ?_) (fun _ => ?_)
  · refine AW.iconst (n := 1) (by decide +kernel) (?_ : AW _ _ _ _ 24 _ _ _ _ _ _)
    exact j_Model_multiple_24 a1 1 μ
  · refine AW.iconst (n := 0) (by decide +kernel) (?_ : AW _ _ _ _ 20 _ _ _ _ _ _)
    refine AW.goto (off := 4) (tgt := 24) (by decide +kernel) (by decide) ?_
    exact j_Model_multiple_24 a1 0 μ
theorem c_Model_multiple (l : Launch) (hl : l.stackTraces = false) (a1 : Int) (μ : ZMem) (r : ZRes) (h : F_Model_multiple a1 μ = some r) : ZC l cf_Model_multiple S_Model S_Model [zR (some 0), zI a1] μ r := ZC.of hl (by decide +kernel) rfl rfl zft_X9_ok (Nat.le_of_ble_eq_true rfl) h (w_Model_multiple a1 μ)
/-! WeirLedgerModel.act(II)I -/
def cf_Model_act : ZCf := (yX9_act, cX9_act, 3, some .int, [], 3, 0, 0, zft_X9, none)
theorem cal_Model_act : zCallee cf_Model_act 2 := ⟨rfl, zc_yX9_act, by decide, by decide, by decide +kernel⟩
def J_Model_act_38 (a1 : Int) (a2 : Int) (y0 : Int) (μ : ZMem) : Option ZRes := zLet (zUp μ 0 0 y0) (fun μ3 => if w32 (μ3 0 0) ≤ 0 then (if w32 a2 = 5 then (zRd μ3 9 61 a1 (fun x6 => some (.inr (some (zI x6)), μ3))) else (if w32 a2 = 6 then (zRd μ3 10 61 a1 (fun x9 => some (.inr (some (zI x9)), μ3))) else (zRd μ3 8 300 ((5 * a1) + a2) (fun x10 => some (.inr (some (zI x10)), μ3))))) else (some (.inr (some (zI 0)), μ3)))
set_option maxRecDepth 100000 in
theorem j_Model_act_38 (a1 : Int) (a2 : Int) (y0 : Int) (μ : ZMem) : AW cf_Model_act S_Model.length S_Model S_Model 38 [(0, zR (some 0)), (1, zI a1), (2, zI a2)] [zI y0, zR (some 0)] μ 0 0 (J_Model_act_38 a1 a2 y0 μ) := by
  unfold J_Model_act_38
  refine AW.putiL (idx := 93) (ci := 9) (k := 0) (r := 0) (by decide +kernel) rfl rfl rfl (fun μ3 => (?_ : AW _ _ _ _ 41 _ _ _ _ _ _))
  refine AW.aload_n (i := 0) (a := 0) (by decide +kernel) rfl (?_ : AW _ _ _ _ 42 _ _ _ _ _ _)
  refine AW.getI (idx := 93) (ci := 9) (k := 0) (r := 0) (by decide +kernel) rfl rfl rfl (?_ : AW _ _ _ _ 45 _ _ _ _ _ _)
  refine AW.if_le (off := 5) (tgt := 50) (by decide +kernel) (by decide) (fun _ => ?_) (fun _ => ?_)
  · refine AW.iload_n (i := 2) (a := a2) (by decide +kernel) rfl (?_ : AW _ _ _ _ 51 _ _ _ _ _ _)
    refine AW.two' (cnd := w32 a2 = 5) (fun h5 => ?_) (fun h4 => ?_)
    · refine AW.lsw (dflt := 41) (ps := #[(5, 25), (6, 33)]) (len := 25) (off := 25) (tgt := 76) (by decide +kernel) (by decide) (zofs_hit h5) (by decide) ?_
      refine AW.aload_n (i := 0) (a := 0) (by decide +kernel) rfl (?_ : AW _ _ _ _ 77 _ _ _ _ _ _)
      refine AW.getR (idx := 35) (ci := 9) (k := 12) (r := 0) (by decide +kernel) rfl rfl rfl (?_ : AW _ _ _ _ 80 _ _ _ _ _ _)
      refine AW.iload_n (i := 1) (a := a1) (by decide +kernel) rfl (?_ : AW _ _ _ _ 81 _ _ _ _ _ _)
      refine AW.lald (r := 9) (by decide +kernel) rfl (fun x6 => (?_ : AW _ _ _ _ 82 _ _ _ _ _ _))
      refine AW.l2i (by decide +kernel) (?_ : AW _ _ _ _ 83 _ _ _ _ _ _)
      exact AW.reti (by decide +kernel) rfl (by decide) (by decide)
    refine AW.two' (cnd := w32 a2 = 6) (fun h8 => ?_) (fun h7 => ?_)
    · refine AW.lsw (dflt := 41) (ps := #[(5, 25), (6, 33)]) (len := 25) (off := 33) (tgt := 84) (by decide +kernel) (by decide) (zofs_miss h4 (zofs_hit h8)) (by decide) ?_
      refine AW.aload_n (i := 0) (a := 0) (by decide +kernel) rfl (?_ : AW _ _ _ _ 85 _ _ _ _ _ _)
      refine AW.getR (idx := 38) (ci := 9) (k := 13) (r := 0) (by decide +kernel) rfl rfl rfl (?_ : AW _ _ _ _ 88 _ _ _ _ _ _)
      refine AW.iload_n (i := 1) (a := a1) (by decide +kernel) rfl (?_ : AW _ _ _ _ 89 _ _ _ _ _ _)
      refine AW.lald (r := 10) (by decide +kernel) rfl (fun x9 => (?_ : AW _ _ _ _ 90 _ _ _ _ _ _))
      refine AW.l2i (by decide +kernel) (?_ : AW _ _ _ _ 91 _ _ _ _ _ _)
      exact AW.reti (by decide +kernel) rfl (by decide) (by decide)
    refine AW.lsw (dflt := 41) (ps := #[(5, 25), (6, 33)]) (len := 25) (off := 41) (tgt := 92) (by decide +kernel) (by decide) (zofs_miss h4 (zofs_miss h7 (zofs_nil))) (by decide) ?_
    refine AW.aload_n (i := 0) (a := 0) (by decide +kernel) rfl (?_ : AW _ _ _ _ 93 _ _ _ _ _ _)
    refine AW.getR (idx := 32) (ci := 9) (k := 10) (r := 0) (by decide +kernel) rfl rfl rfl (?_ : AW _ _ _ _ 96 _ _ _ _ _ _)
    refine AW.iconst (n := 5) (by decide +kernel) (?_ : AW _ _ _ _ 97 _ _ _ _ _ _)
    refine AW.iload_n (i := 1) (a := a1) (by decide +kernel) rfl (?_ : AW _ _ _ _ 98 _ _ _ _ _ _)
    refine AW.imul (by decide +kernel) (?_ : AW _ _ _ _ 99 _ _ _ _ _ _)
    refine AW.iload_n (i := 2) (a := a2) (by decide +kernel) rfl (?_ : AW _ _ _ _ 100 _ _ _ _ _ _)
    refine AW.iadd (by decide +kernel) (?_ : AW _ _ _ _ 101 _ _ _ _ _ _)
    refine AW.iald (r := 8) (by decide +kernel) rfl (fun x10 => (?_ : AW _ _ _ _ 102 _ _ _ _ _ _))
    exact AW.reti (by decide +kernel) rfl (by decide) (by decide)
  · refine AW.iconst (n := 0) (by decide +kernel) (?_ : AW _ _ _ _ 49 _ _ _ _ _ _)
    exact AW.reti (by decide +kernel) rfl (by decide) (by decide)
def F_Model_act (a1 : Int) (a2 : Int) (μ : ZMem) : Option ZRes := zC (F_Model_isIn (w32 a1) 0 (w32 ((μ 0 11) - 1)) μ) (zkI (fun x2 _ => if w32 x2 = 0 then (J_Model_act_38 a1 a2 1 μ) else (zC (F_Model_isIn (w32 a2) 0 6 μ) (zkI (fun x12 _ => if w32 x12 = 0 then (J_Model_act_38 a1 a2 2 μ) else (J_Model_act_38 a1 a2 0 μ))) zX0))) zX0
set_option maxRecDepth 100000 in
theorem w_Model_act (a1 : Int) (a2 : Int) (μ : ZMem) : AW cf_Model_act S_Model.length S_Model S_Model 0 [(0, zR (some 0)), (1, zI a1), (2, zI a2)] [] μ 0 0 (F_Model_act a1 a2 μ) := by
  unfold F_Model_act
  refine AW.aload_n (i := 0) (a := 0) (by decide +kernel) rfl (?_ : AW _ _ _ _ 1 _ _ _ _ _ _)
  refine AW.iload_n (i := 1) (a := a1) (by decide +kernel) rfl (?_ : AW _ _ _ _ 2 _ _ _ _ _ _)
  refine AW.i2l (by decide +kernel) (?_ : AW _ _ _ _ 3 _ _ _ _ _ _)
  refine AW.lconst0 (by decide +kernel) (?_ : AW _ _ _ _ 4 _ _ _ _ _ _)
  refine AW.aload_n (i := 0) (a := 0) (by decide +kernel) rfl (?_ : AW _ _ _ _ 5 _ _ _ _ _ _)
  refine AW.getI (idx := 116) (ci := 9) (k := 11) (r := 0) (by decide +kernel) rfl rfl rfl (?_ : AW _ _ _ _ 8 _ _ _ _ _ _)
  refine AW.iconst (n := 1) (by decide +kernel) (?_ : AW _ _ _ _ 9 _ _ _ _ _ _)
  refine AW.isub (by decide +kernel) (?_ : AW _ _ _ _ 10 _ _ _ _ _ _)
  refine AW.i2l (by decide +kernel) (?_ : AW _ _ _ _ 11 _ _ _ _ _ _)
  refine AW.callP (g := cf_Model_isIn) (av := [zJ (w32 a1), zJ 0, zJ (w32 ((μ 0 11) - 1))]) (idx := 99) (n := 3) (st := [zR (some 0)]) (by decide +kernel) (fun l hl r hr => c_Model_isIn l hl (w32 a1) 0 (w32 ((μ 0 11) - 1)) _ r hr) rfl cal_Model_isIn rfl (zw3 zm_X9_99 zt_yX9_isIn zn_X9) ⟨by decide, by decide, by decide, by decide⟩ (Nat.le_of_ble_eq_true rfl) (fun v _ => AW.kI (fun x2 => (?_ : AW _ _ _ _ 14 _ _ _ _ _ _)) v)
  refine AW.if_ne (off := 7) (tgt := 21) (by decide +kernel) (by decide) (fun _ => ?_) (fun _ => ?_)
  · refine AW.iconst (n := 1) (by decide +kernel) (?_ : AW _ _ _ _ 18 _ _ _ _ _ _)
    refine AW.goto (off := 20) (tgt := 38) (by decide +kernel) (by decide) ?_
    exact j_Model_act_38 a1 a2 1 μ
  · refine AW.iload_n (i := 2) (a := a2) (by decide +kernel) rfl (?_ : AW _ _ _ _ 22 _ _ _ _ _ _)
    refine AW.i2l (by decide +kernel) (?_ : AW _ _ _ _ 23 _ _ _ _ _ _)
    refine AW.lconst0 (by decide +kernel) (?_ : AW _ _ _ _ 24 _ _ _ _ _ _)
    refine AW.ldc2 (idx := 345) (v := 6) (by decide +kernel) zk_X9_345 (?_ : AW _ _ _ _ 27 _ _ _ _ _ _)
    refine AW.callP (g := cf_Model_isIn) (av := [zJ (w32 a2), zJ 0, zJ 6]) (idx := 99) (n := 3) (st := [zR (some 0)]) (by decide +kernel) (fun l hl r hr => c_Model_isIn l hl (w32 a2) 0 6 _ r hr) rfl cal_Model_isIn rfl (zw3 zm_X9_99 zt_yX9_isIn zn_X9) ⟨by decide, by decide, by decide, by decide⟩ (Nat.le_of_ble_eq_true rfl) (fun v _ => AW.kI (fun x12 => (?_ : AW _ _ _ _ 30 _ _ _ _ _ _)) v)
    refine AW.if_ne (off := 7) (tgt := 37) (by decide +kernel) (by decide) (fun _ => ?_) (fun _ => ?_)
    · refine AW.iconst (n := 2) (by decide +kernel) (?_ : AW _ _ _ _ 34 _ _ _ _ _ _)
      refine AW.goto (off := 4) (tgt := 38) (by decide +kernel) (by decide) ?_
      exact j_Model_act_38 a1 a2 2 μ
    · refine AW.iconst (n := 0) (by decide +kernel) (?_ : AW _ _ _ _ 38 _ _ _ _ _ _)
      exact j_Model_act_38 a1 a2 0 μ
theorem c_Model_act (l : Launch) (hl : l.stackTraces = false) (a1 : Int) (a2 : Int) (μ : ZMem) (r : ZRes) (h : F_Model_act a1 a2 μ = some r) : ZC l cf_Model_act S_Model S_Model [zR (some 0), zI a1, zI a2] μ r := ZC.of hl (by decide +kernel) rfl rfl zft_X9_ok (Nat.le_of_ble_eq_true rfl) h (w_Model_act a1 a2 μ)
/-! WeirLedgerModel.image()V -/
def cf_Model_image : ZCf := (yX9_image, cX9_image, 2, none, [], 2, 0, 0, zft_X9, none)
theorem cal_Model_image : zCallee cf_Model_image 0 := ⟨rfl, zc_yX9_image, by decide, by decide, by decide +kernel⟩
def L_Model_image_7 (K : ZMem → Option ZRes) : Nat → Int → ZMem → Option ZRes
  | 0, _, _ => none
  | n + 1, v1, μ => if w32 7 ≤ w32 v1 then (K  μ) else (zRd μ 2 7 v1 (fun x2 => zWr μ 14 322 v1 x2 (fun μ3 => zLet (v1 + 1) (fun x4 => L_Model_image_7 K n x4 μ3))))
set_option maxRecDepth 100000 in
theorem l_Model_image_7 {K : ZMem → Option ZRes} (hK : ∀ (μ : ZMem), AW cf_Model_image S_Model.length S_Model S_Model 31 [(0, zR (some 0))] [] μ 0 0 (K μ)) : ∀ (n : Nat) (v1 : Int) (μ : ZMem), AW cf_Model_image S_Model.length S_Model S_Model 7 [(0, zR (some 0)), (1, zI v1)] [] μ 0 0 (L_Model_image_7 K n v1 μ) := by
  intro n
  induction n with
  | zero => intro v1 μ; exact AW.noth
  | succ n ih =>
    intro v1 μ
    rw [L_Model_image_7]
    refine AW.iload_n (i := 1) (a := v1) (by decide +kernel) rfl (?_ : AW _ _ _ _ 8 _ _ _ _ _ _)
    refine AW.bipush (n := 7) (by decide +kernel) (by decide +kernel) (?_ : AW _ _ _ _ 10 _ _ _ _ _ _)
    refine AW.icmp_ge (off := 21) (tgt := 31) (by decide +kernel) (by decide) (fun _ => ?_) (fun _ => ?_)
    · refine AW.sub (L' := [(0, zR (some 0))]) [0] rfl ?_
      exact hK  μ
    · refine AW.aload_n (i := 0) (a := 0) (by decide +kernel) rfl (?_ : AW _ _ _ _ 14 _ _ _ _ _ _)
      refine AW.getR (idx := 54) (ci := 9) (k := 18) (r := 0) (by decide +kernel) rfl rfl rfl (?_ : AW _ _ _ _ 17 _ _ _ _ _ _)
      refine AW.iload_n (i := 1) (a := v1) (by decide +kernel) rfl (?_ : AW _ _ _ _ 18 _ _ _ _ _ _)
      refine AW.aload_n (i := 0) (a := 0) (by decide +kernel) rfl (?_ : AW _ _ _ _ 19 _ _ _ _ _ _)
      refine AW.getR (idx := 13) (ci := 9) (k := 2) (r := 0) (by decide +kernel) rfl rfl rfl (?_ : AW _ _ _ _ 22 _ _ _ _ _ _)
      refine AW.iload_n (i := 1) (a := v1) (by decide +kernel) rfl (?_ : AW _ _ _ _ 23 _ _ _ _ _ _)
      refine AW.iald (r := 2) (by decide +kernel) rfl (fun x2 => (?_ : AW _ _ _ _ 24 _ _ _ _ _ _))
      refine AW.iastL (r := 14) (by decide +kernel) rfl (fun μ3 => (?_ : AW _ _ _ _ 25 _ _ _ _ _ _))
      refine AW.iincL (i := 1) (n := 1) (a := v1) (L' := fun x4 => [(1, zI x4), (0, zR (some 0))]) (by decide +kernel) rfl (by decide) (fun _ => rfl) (fun x4 => (?_ : AW _ _ _ _ 28 _ _ _ _ _ _))
      refine AW.goto (off := -21) (tgt := 7) (by decide +kernel) (by decide) ?_
      refine AW.sub (L' := [(0, zR (some 0)), (1, zI x4)]) [1, 0] rfl ?_
      exact ih x4 μ3
def L_Model_image_33 (K : ZMem → Option ZRes) : Nat → Int → ZMem → Option ZRes
  | 0, _, _ => none
  | n + 1, v1, μ => if w32 6 ≤ w32 v1 then (K  μ) else (zRd μ 3 6 v1 (fun x6 => zWr μ 14 322 (7 + v1) x6 (fun μ7 => zLet (v1 + 1) (fun x8 => L_Model_image_33 K n x8 μ7))))
set_option maxRecDepth 100000 in
theorem l_Model_image_33 {K : ZMem → Option ZRes} (hK : ∀ (μ : ZMem), AW cf_Model_image S_Model.length S_Model S_Model 60 [(0, zR (some 0))] [] μ 0 0 (K μ)) : ∀ (n : Nat) (v1 : Int) (μ : ZMem), AW cf_Model_image S_Model.length S_Model S_Model 33 [(0, zR (some 0)), (1, zI v1)] [] μ 0 0 (L_Model_image_33 K n v1 μ) := by
  intro n
  induction n with
  | zero => intro v1 μ; exact AW.noth
  | succ n ih =>
    intro v1 μ
    rw [L_Model_image_33]
    refine AW.iload_n (i := 1) (a := v1) (by decide +kernel) rfl (?_ : AW _ _ _ _ 34 _ _ _ _ _ _)
    refine AW.bipush (n := 6) (by decide +kernel) (by decide +kernel) (?_ : AW _ _ _ _ 36 _ _ _ _ _ _)
    refine AW.icmp_ge (off := 24) (tgt := 60) (by decide +kernel) (by decide) (fun _ => ?_) (fun _ => ?_)
    · refine AW.sub (L' := [(0, zR (some 0))]) [0] rfl ?_
      exact hK  μ
    · refine AW.aload_n (i := 0) (a := 0) (by decide +kernel) rfl (?_ : AW _ _ _ _ 40 _ _ _ _ _ _)
      refine AW.getR (idx := 54) (ci := 9) (k := 18) (r := 0) (by decide +kernel) rfl rfl rfl (?_ : AW _ _ _ _ 43 _ _ _ _ _ _)
      refine AW.bipush (n := 7) (by decide +kernel) (by decide +kernel) (?_ : AW _ _ _ _ 45 _ _ _ _ _ _)
      refine AW.iload_n (i := 1) (a := v1) (by decide +kernel) rfl (?_ : AW _ _ _ _ 46 _ _ _ _ _ _)
      refine AW.iadd (by decide +kernel) (?_ : AW _ _ _ _ 47 _ _ _ _ _ _)
      refine AW.aload_n (i := 0) (a := 0) (by decide +kernel) rfl (?_ : AW _ _ _ _ 48 _ _ _ _ _ _)
      refine AW.getR (idx := 16) (ci := 9) (k := 3) (r := 0) (by decide +kernel) rfl rfl rfl (?_ : AW _ _ _ _ 51 _ _ _ _ _ _)
      refine AW.iload_n (i := 1) (a := v1) (by decide +kernel) rfl (?_ : AW _ _ _ _ 52 _ _ _ _ _ _)
      refine AW.iald (r := 3) (by decide +kernel) rfl (fun x6 => (?_ : AW _ _ _ _ 53 _ _ _ _ _ _))
      refine AW.iastL (r := 14) (by decide +kernel) rfl (fun μ7 => (?_ : AW _ _ _ _ 54 _ _ _ _ _ _))
      refine AW.iincL (i := 1) (n := 1) (a := v1) (L' := fun x8 => [(1, zI x8), (0, zR (some 0))]) (by decide +kernel) rfl (by decide) (fun _ => rfl) (fun x8 => (?_ : AW _ _ _ _ 57 _ _ _ _ _ _))
      refine AW.goto (off := -24) (tgt := 33) (by decide +kernel) (by decide) ?_
      refine AW.sub (L' := [(0, zR (some 0)), (1, zI x8)]) [1, 0] rfl ?_
      exact ih x8 μ7
def L_Model_image_95 (K : ZMem → Option ZRes) : Nat → Int → ZMem → Option ZRes
  | 0, _, _ => none
  | n + 1, v1, μ => if w32 6 ≤ w32 v1 then (K  μ) else (zRd μ 4 6 v1 (fun x13 => zWr μ 14 322 (16 + v1) x13 (fun μ14 => zLet (v1 + 1) (fun x15 => L_Model_image_95 K n x15 μ14))))
set_option maxRecDepth 100000 in
theorem l_Model_image_95 {K : ZMem → Option ZRes} (hK : ∀ (μ : ZMem), AW cf_Model_image S_Model.length S_Model S_Model 122 [(0, zR (some 0))] [] μ 0 0 (K μ)) : ∀ (n : Nat) (v1 : Int) (μ : ZMem), AW cf_Model_image S_Model.length S_Model S_Model 95 [(0, zR (some 0)), (1, zI v1)] [] μ 0 0 (L_Model_image_95 K n v1 μ) := by
  intro n
  induction n with
  | zero => intro v1 μ; exact AW.noth
  | succ n ih =>
    intro v1 μ
    rw [L_Model_image_95]
    refine AW.iload_n (i := 1) (a := v1) (by decide +kernel) rfl (?_ : AW _ _ _ _ 96 _ _ _ _ _ _)
    refine AW.bipush (n := 6) (by decide +kernel) (by decide +kernel) (?_ : AW _ _ _ _ 98 _ _ _ _ _ _)
    refine AW.icmp_ge (off := 24) (tgt := 122) (by decide +kernel) (by decide) (fun _ => ?_) (fun _ => ?_)
    · refine AW.sub (L' := [(0, zR (some 0))]) [0] rfl ?_
      exact hK  μ
    · refine AW.aload_n (i := 0) (a := 0) (by decide +kernel) rfl (?_ : AW _ _ _ _ 102 _ _ _ _ _ _)
      refine AW.getR (idx := 54) (ci := 9) (k := 18) (r := 0) (by decide +kernel) rfl rfl rfl (?_ : AW _ _ _ _ 105 _ _ _ _ _ _)
      refine AW.bipush (n := 16) (by decide +kernel) (by decide +kernel) (?_ : AW _ _ _ _ 107 _ _ _ _ _ _)
      refine AW.iload_n (i := 1) (a := v1) (by decide +kernel) rfl (?_ : AW _ _ _ _ 108 _ _ _ _ _ _)
      refine AW.iadd (by decide +kernel) (?_ : AW _ _ _ _ 109 _ _ _ _ _ _)
      refine AW.aload_n (i := 0) (a := 0) (by decide +kernel) rfl (?_ : AW _ _ _ _ 110 _ _ _ _ _ _)
      refine AW.getR (idx := 19) (ci := 9) (k := 4) (r := 0) (by decide +kernel) rfl rfl rfl (?_ : AW _ _ _ _ 113 _ _ _ _ _ _)
      refine AW.iload_n (i := 1) (a := v1) (by decide +kernel) rfl (?_ : AW _ _ _ _ 114 _ _ _ _ _ _)
      refine AW.iald (r := 4) (by decide +kernel) rfl (fun x13 => (?_ : AW _ _ _ _ 115 _ _ _ _ _ _))
      refine AW.iastL (r := 14) (by decide +kernel) rfl (fun μ14 => (?_ : AW _ _ _ _ 116 _ _ _ _ _ _))
      refine AW.iincL (i := 1) (n := 1) (a := v1) (L' := fun x15 => [(1, zI x15), (0, zR (some 0))]) (by decide +kernel) rfl (by decide) (fun _ => rfl) (fun x15 => (?_ : AW _ _ _ _ 119 _ _ _ _ _ _))
      refine AW.goto (off := -24) (tgt := 95) (by decide +kernel) (by decide) ?_
      refine AW.sub (L' := [(0, zR (some 0)), (1, zI x15)]) [1, 0] rfl ?_
      exact ih x15 μ14
def L_Model_image_124 (K : ZMem → Option ZRes) : Nat → Int → ZMem → Option ZRes
  | 0, _, _ => none
  | n + 1, v1, μ => if w32 300 ≤ w32 v1 then (K  μ) else (zRd μ 8 300 v1 (fun x17 => zWr μ 14 322 (22 + v1) x17 (fun μ18 => zLet (v1 + 1) (fun x19 => L_Model_image_124 K n x19 μ18))))
set_option maxRecDepth 100000 in
theorem l_Model_image_124 {K : ZMem → Option ZRes} (hK : ∀ (μ : ZMem), AW cf_Model_image S_Model.length S_Model S_Model 152 [(0, zR (some 0))] [] μ 0 0 (K μ)) : ∀ (n : Nat) (v1 : Int) (μ : ZMem), AW cf_Model_image S_Model.length S_Model S_Model 124 [(0, zR (some 0)), (1, zI v1)] [] μ 0 0 (L_Model_image_124 K n v1 μ) := by
  intro n
  induction n with
  | zero => intro v1 μ; exact AW.noth
  | succ n ih =>
    intro v1 μ
    rw [L_Model_image_124]
    refine AW.iload_n (i := 1) (a := v1) (by decide +kernel) rfl (?_ : AW _ _ _ _ 125 _ _ _ _ _ _)
    refine AW.sipush (n := 300) (by decide +kernel) (by decide +kernel) (?_ : AW _ _ _ _ 128 _ _ _ _ _ _)
    refine AW.icmp_ge (off := 24) (tgt := 152) (by decide +kernel) (by decide) (fun _ => ?_) (fun _ => ?_)
    · refine AW.sub (L' := [(0, zR (some 0))]) [0] rfl ?_
      exact hK  μ
    · refine AW.aload_n (i := 0) (a := 0) (by decide +kernel) rfl (?_ : AW _ _ _ _ 132 _ _ _ _ _ _)
      refine AW.getR (idx := 54) (ci := 9) (k := 18) (r := 0) (by decide +kernel) rfl rfl rfl (?_ : AW _ _ _ _ 135 _ _ _ _ _ _)
      refine AW.bipush (n := 22) (by decide +kernel) (by decide +kernel) (?_ : AW _ _ _ _ 137 _ _ _ _ _ _)
      refine AW.iload_n (i := 1) (a := v1) (by decide +kernel) rfl (?_ : AW _ _ _ _ 138 _ _ _ _ _ _)
      refine AW.iadd (by decide +kernel) (?_ : AW _ _ _ _ 139 _ _ _ _ _ _)
      refine AW.aload_n (i := 0) (a := 0) (by decide +kernel) rfl (?_ : AW _ _ _ _ 140 _ _ _ _ _ _)
      refine AW.getR (idx := 32) (ci := 9) (k := 10) (r := 0) (by decide +kernel) rfl rfl rfl (?_ : AW _ _ _ _ 143 _ _ _ _ _ _)
      refine AW.iload_n (i := 1) (a := v1) (by decide +kernel) rfl (?_ : AW _ _ _ _ 144 _ _ _ _ _ _)
      refine AW.iald (r := 8) (by decide +kernel) rfl (fun x17 => (?_ : AW _ _ _ _ 145 _ _ _ _ _ _))
      refine AW.iastL (r := 14) (by decide +kernel) rfl (fun μ18 => (?_ : AW _ _ _ _ 146 _ _ _ _ _ _))
      refine AW.iincL (i := 1) (n := 1) (a := v1) (L' := fun x19 => [(1, zI x19), (0, zR (some 0))]) (by decide +kernel) rfl (by decide) (fun _ => rfl) (fun x19 => (?_ : AW _ _ _ _ 149 _ _ _ _ _ _))
      refine AW.goto (off := -25) (tgt := 124) (by decide +kernel) (by decide) ?_
      refine AW.sub (L' := [(0, zR (some 0)), (1, zI x19)]) [1, 0] rfl ?_
      exact ih x19 μ18
def F_Model_image (μ : ZMem) : Option ZRes := zLet (zUp μ 0 0 0) (fun μ1 => L_Model_image_7 (fun μ5 => L_Model_image_33 (fun μ9 => zWr μ9 14 322 13 (μ9 0 5) (fun μ10 => zWr μ10 14 322 14 (μ10 0 6) (fun μ11 => zWr μ11 14 322 15 (μ11 0 11) (fun μ12 => L_Model_image_95 (fun μ16 => L_Model_image_124 (fun μ20 => zLet (zUp μ20 0 19 1) (fun μ21 => some (.inr none, μ21))) zN 0 μ16) zN 0 μ12)))) zN 0 μ5) zN 0 μ1)
set_option maxRecDepth 100000 in
theorem w_Model_image (μ : ZMem) : AW cf_Model_image S_Model.length S_Model S_Model 0 [(0, zR (some 0))] [] μ 0 0 (F_Model_image μ) := by
  unfold F_Model_image
  refine AW.aload_n (i := 0) (a := 0) (by decide +kernel) rfl (?_ : AW _ _ _ _ 1 _ _ _ _ _ _)
  refine AW.iconst (n := 0) (by decide +kernel) (?_ : AW _ _ _ _ 2 _ _ _ _ _ _)
  refine AW.putiL (idx := 93) (ci := 9) (k := 0) (r := 0) (by decide +kernel) rfl rfl rfl (fun μ1 => (?_ : AW _ _ _ _ 5 _ _ _ _ _ _))
  refine AW.iconst (n := 0) (by decide +kernel) (?_ : AW _ _ _ _ 6 _ _ _ _ _ _)
  refine AW.istore_n' (i := 1) (L' := [(1, zI 0), (0, zR (some 0))]) (by decide +kernel) (by decide) rfl (?_ : AW _ _ _ _ 7 _ _ _ _ _ _)
  refine AW.sub (L' := [(0, zR (some 0)), (1, zI 0)]) [1, 0] rfl ?_
  refine l_Model_image_7 (fun μ5 => ?_) zN _ _
  refine AW.iconst (n := 0) (by decide +kernel) (?_ : AW _ _ _ _ 32 _ _ _ _ _ _)
  refine AW.istore_n' (i := 1) (L' := [(1, zI 0), (0, zR (some 0))]) (by decide +kernel) (by decide) rfl (?_ : AW _ _ _ _ 33 _ _ _ _ _ _)
  refine AW.sub (L' := [(0, zR (some 0)), (1, zI 0)]) [1, 0] rfl ?_
  refine l_Model_image_33 (fun μ9 => ?_) zN _ _
  refine AW.aload_n (i := 0) (a := 0) (by decide +kernel) rfl (?_ : AW _ _ _ _ 61 _ _ _ _ _ _)
  refine AW.getR (idx := 54) (ci := 9) (k := 18) (r := 0) (by decide +kernel) rfl rfl rfl (?_ : AW _ _ _ _ 64 _ _ _ _ _ _)
  refine AW.bipush (n := 13) (by decide +kernel) (by decide +kernel) (?_ : AW _ _ _ _ 66 _ _ _ _ _ _)
  refine AW.aload_n (i := 0) (a := 0) (by decide +kernel) rfl (?_ : AW _ _ _ _ 67 _ _ _ _ _ _)
  refine AW.getI (idx := 96) (ci := 9) (k := 5) (r := 0) (by decide +kernel) rfl rfl rfl (?_ : AW _ _ _ _ 70 _ _ _ _ _ _)
  refine AW.iastL (r := 14) (by decide +kernel) rfl (fun μ10 => (?_ : AW _ _ _ _ 71 _ _ _ _ _ _))
  refine AW.aload_n (i := 0) (a := 0) (by decide +kernel) rfl (?_ : AW _ _ _ _ 72 _ _ _ _ _ _)
  refine AW.getR (idx := 54) (ci := 9) (k := 18) (r := 0) (by decide +kernel) rfl rfl rfl (?_ : AW _ _ _ _ 75 _ _ _ _ _ _)
  refine AW.bipush (n := 14) (by decide +kernel) (by decide +kernel) (?_ : AW _ _ _ _ 77 _ _ _ _ _ _)
  refine AW.aload_n (i := 0) (a := 0) (by decide +kernel) rfl (?_ : AW _ _ _ _ 78 _ _ _ _ _ _)
  refine AW.getI (idx := 103) (ci := 9) (k := 6) (r := 0) (by decide +kernel) rfl rfl rfl (?_ : AW _ _ _ _ 81 _ _ _ _ _ _)
  refine AW.iastL (r := 14) (by decide +kernel) rfl (fun μ11 => (?_ : AW _ _ _ _ 82 _ _ _ _ _ _))
  refine AW.aload_n (i := 0) (a := 0) (by decide +kernel) rfl (?_ : AW _ _ _ _ 83 _ _ _ _ _ _)
  refine AW.getR (idx := 54) (ci := 9) (k := 18) (r := 0) (by decide +kernel) rfl rfl rfl (?_ : AW _ _ _ _ 86 _ _ _ _ _ _)
  refine AW.bipush (n := 15) (by decide +kernel) (by decide +kernel) (?_ : AW _ _ _ _ 88 _ _ _ _ _ _)
  refine AW.aload_n (i := 0) (a := 0) (by decide +kernel) rfl (?_ : AW _ _ _ _ 89 _ _ _ _ _ _)
  refine AW.getI (idx := 116) (ci := 9) (k := 11) (r := 0) (by decide +kernel) rfl rfl rfl (?_ : AW _ _ _ _ 92 _ _ _ _ _ _)
  refine AW.iastL (r := 14) (by decide +kernel) rfl (fun μ12 => (?_ : AW _ _ _ _ 93 _ _ _ _ _ _))
  refine AW.iconst (n := 0) (by decide +kernel) (?_ : AW _ _ _ _ 94 _ _ _ _ _ _)
  refine AW.istore_n' (i := 1) (L' := [(1, zI 0), (0, zR (some 0))]) (by decide +kernel) (by decide) rfl (?_ : AW _ _ _ _ 95 _ _ _ _ _ _)
  refine AW.sub (L' := [(0, zR (some 0)), (1, zI 0)]) [1, 0] rfl ?_
  refine l_Model_image_95 (fun μ16 => ?_) zN _ _
  refine AW.iconst (n := 0) (by decide +kernel) (?_ : AW _ _ _ _ 123 _ _ _ _ _ _)
  refine AW.istore_n' (i := 1) (L' := [(1, zI 0), (0, zR (some 0))]) (by decide +kernel) (by decide) rfl (?_ : AW _ _ _ _ 124 _ _ _ _ _ _)
  refine AW.sub (L' := [(0, zR (some 0)), (1, zI 0)]) [1, 0] rfl ?_
  refine l_Model_image_124 (fun μ20 => ?_) zN _ _
  refine AW.aload_n (i := 0) (a := 0) (by decide +kernel) rfl (?_ : AW _ _ _ _ 153 _ _ _ _ _ _)
  refine AW.iconst (n := 1) (by decide +kernel) (?_ : AW _ _ _ _ 154 _ _ _ _ _ _)
  refine AW.putb1L (idx := 435) (ci := 9) (k := 19) (r := 0) (by decide +kernel) rfl rfl rfl (by decide) (fun μ21 => (?_ : AW _ _ _ _ 157 _ _ _ _ _ _))
  exact AW.retv (by decide +kernel) rfl (by decide) (by decide)
theorem c_Model_image (l : Launch) (hl : l.stackTraces = false) (μ : ZMem) (r : ZRes) (h : F_Model_image μ = some r) : ZC l cf_Model_image S_Model S_Model [zR (some 0)] μ r := ZC.of hl (by decide +kernel) rfl rfl zft_X9_ok (Nat.le_of_ble_eq_true rfl) h (w_Model_image μ)
/-! WeirLedgerModel.back()Z -/
def cf_Model_back : ZCf := (yX9_back, cX9_back, 2, some .boolean, [], 10, 0, 0, zft_X9, none)
theorem cal_Model_back : zCallee cf_Model_back 0 := ⟨rfl, zc_yX9_back, by decide, by decide, by decide +kernel⟩
def L_Model_back_16 (K : ZMem → Option ZRes) : Nat → Int → ZMem → Option ZRes
  | 0, _, _ => none
  | n + 1, v1, μ => if w32 7 ≤ w32 v1 then (K  μ) else (zRd μ 14 322 v1 (fun x2 => zWr μ 2 7 v1 x2 (fun μ3 => zLet (v1 + 1) (fun x4 => L_Model_back_16 K n x4 μ3))))
set_option maxRecDepth 100000 in
theorem l_Model_back_16 {K : ZMem → Option ZRes} (hK : ∀ (μ : ZMem), AW cf_Model_back S_Model.length S_Model S_Model 40 [(0, zR (some 0))] [] μ 0 0 (K μ)) : ∀ (n : Nat) (v1 : Int) (μ : ZMem), AW cf_Model_back S_Model.length S_Model S_Model 16 [(0, zR (some 0)), (1, zI v1)] [] μ 0 0 (L_Model_back_16 K n v1 μ) := by
  intro n
  induction n with
  | zero => intro v1 μ; exact AW.noth
  | succ n ih =>
    intro v1 μ
    rw [L_Model_back_16]
    refine AW.iload_n (i := 1) (a := v1) (by decide +kernel) rfl (?_ : AW _ _ _ _ 17 _ _ _ _ _ _)
    refine AW.bipush (n := 7) (by decide +kernel) (by decide +kernel) (?_ : AW _ _ _ _ 19 _ _ _ _ _ _)
    refine AW.icmp_ge (off := 21) (tgt := 40) (by decide +kernel) (by decide) (fun _ => ?_) (fun _ => ?_)
    · refine AW.sub (L' := [(0, zR (some 0))]) [0] rfl ?_
      exact hK  μ
    · refine AW.aload_n (i := 0) (a := 0) (by decide +kernel) rfl (?_ : AW _ _ _ _ 23 _ _ _ _ _ _)
      refine AW.getR (idx := 13) (ci := 9) (k := 2) (r := 0) (by decide +kernel) rfl rfl rfl (?_ : AW _ _ _ _ 26 _ _ _ _ _ _)
      refine AW.iload_n (i := 1) (a := v1) (by decide +kernel) rfl (?_ : AW _ _ _ _ 27 _ _ _ _ _ _)
      refine AW.aload_n (i := 0) (a := 0) (by decide +kernel) rfl (?_ : AW _ _ _ _ 28 _ _ _ _ _ _)
      refine AW.getR (idx := 54) (ci := 9) (k := 18) (r := 0) (by decide +kernel) rfl rfl rfl (?_ : AW _ _ _ _ 31 _ _ _ _ _ _)
      refine AW.iload_n (i := 1) (a := v1) (by decide +kernel) rfl (?_ : AW _ _ _ _ 32 _ _ _ _ _ _)
      refine AW.iald (r := 14) (by decide +kernel) rfl (fun x2 => (?_ : AW _ _ _ _ 33 _ _ _ _ _ _))
      refine AW.iastL (r := 2) (by decide +kernel) rfl (fun μ3 => (?_ : AW _ _ _ _ 34 _ _ _ _ _ _))
      refine AW.iincL (i := 1) (n := 1) (a := v1) (L' := fun x4 => [(1, zI x4), (0, zR (some 0))]) (by decide +kernel) rfl (by decide) (fun _ => rfl) (fun x4 => (?_ : AW _ _ _ _ 37 _ _ _ _ _ _))
      refine AW.goto (off := -21) (tgt := 16) (by decide +kernel) (by decide) ?_
      refine AW.sub (L' := [(0, zR (some 0)), (1, zI x4)]) [1, 0] rfl ?_
      exact ih x4 μ3
def L_Model_back_42 (K : ZMem → Option ZRes) : Nat → Int → ZMem → Option ZRes
  | 0, _, _ => none
  | n + 1, v1, μ => if w32 6 ≤ w32 v1 then (K  μ) else (zRd μ 14 322 (7 + v1) (fun x6 => zWr μ 3 6 v1 x6 (fun μ7 => zLet (v1 + 1) (fun x8 => L_Model_back_42 K n x8 μ7))))
set_option maxRecDepth 100000 in
theorem l_Model_back_42 {K : ZMem → Option ZRes} (hK : ∀ (μ : ZMem), AW cf_Model_back S_Model.length S_Model S_Model 69 [(0, zR (some 0))] [] μ 0 0 (K μ)) : ∀ (n : Nat) (v1 : Int) (μ : ZMem), AW cf_Model_back S_Model.length S_Model S_Model 42 [(0, zR (some 0)), (1, zI v1)] [] μ 0 0 (L_Model_back_42 K n v1 μ) := by
  intro n
  induction n with
  | zero => intro v1 μ; exact AW.noth
  | succ n ih =>
    intro v1 μ
    rw [L_Model_back_42]
    refine AW.iload_n (i := 1) (a := v1) (by decide +kernel) rfl (?_ : AW _ _ _ _ 43 _ _ _ _ _ _)
    refine AW.bipush (n := 6) (by decide +kernel) (by decide +kernel) (?_ : AW _ _ _ _ 45 _ _ _ _ _ _)
    refine AW.icmp_ge (off := 24) (tgt := 69) (by decide +kernel) (by decide) (fun _ => ?_) (fun _ => ?_)
    · refine AW.sub (L' := [(0, zR (some 0))]) [0] rfl ?_
      exact hK  μ
    · refine AW.aload_n (i := 0) (a := 0) (by decide +kernel) rfl (?_ : AW _ _ _ _ 49 _ _ _ _ _ _)
      refine AW.getR (idx := 16) (ci := 9) (k := 3) (r := 0) (by decide +kernel) rfl rfl rfl (?_ : AW _ _ _ _ 52 _ _ _ _ _ _)
      refine AW.iload_n (i := 1) (a := v1) (by decide +kernel) rfl (?_ : AW _ _ _ _ 53 _ _ _ _ _ _)
      refine AW.aload_n (i := 0) (a := 0) (by decide +kernel) rfl (?_ : AW _ _ _ _ 54 _ _ _ _ _ _)
      refine AW.getR (idx := 54) (ci := 9) (k := 18) (r := 0) (by decide +kernel) rfl rfl rfl (?_ : AW _ _ _ _ 57 _ _ _ _ _ _)
      refine AW.bipush (n := 7) (by decide +kernel) (by decide +kernel) (?_ : AW _ _ _ _ 59 _ _ _ _ _ _)
      refine AW.iload_n (i := 1) (a := v1) (by decide +kernel) rfl (?_ : AW _ _ _ _ 60 _ _ _ _ _ _)
      refine AW.iadd (by decide +kernel) (?_ : AW _ _ _ _ 61 _ _ _ _ _ _)
      refine AW.iald (r := 14) (by decide +kernel) rfl (fun x6 => (?_ : AW _ _ _ _ 62 _ _ _ _ _ _))
      refine AW.iastL (r := 3) (by decide +kernel) rfl (fun μ7 => (?_ : AW _ _ _ _ 63 _ _ _ _ _ _))
      refine AW.iincL (i := 1) (n := 1) (a := v1) (L' := fun x8 => [(1, zI x8), (0, zR (some 0))]) (by decide +kernel) rfl (by decide) (fun _ => rfl) (fun x8 => (?_ : AW _ _ _ _ 66 _ _ _ _ _ _))
      refine AW.goto (off := -24) (tgt := 42) (by decide +kernel) (by decide) ?_
      refine AW.sub (L' := [(0, zR (some 0)), (1, zI x8)]) [1, 0] rfl ?_
      exact ih x8 μ7
def L_Model_back_104 (K : ZMem → Option ZRes) : Nat → Int → ZMem → Option ZRes
  | 0, _, _ => none
  | n + 1, v1, μ => if w32 6 ≤ w32 v1 then (K  μ) else (zRd μ 14 322 (16 + v1) (fun x16 => zWr μ 4 6 v1 x16 (fun μ17 => zLet (v1 + 1) (fun x18 => L_Model_back_104 K n x18 μ17))))
set_option maxRecDepth 100000 in
theorem l_Model_back_104 {K : ZMem → Option ZRes} (hK : ∀ (μ : ZMem), AW cf_Model_back S_Model.length S_Model S_Model 131 [(0, zR (some 0))] [] μ 0 0 (K μ)) : ∀ (n : Nat) (v1 : Int) (μ : ZMem), AW cf_Model_back S_Model.length S_Model S_Model 104 [(0, zR (some 0)), (1, zI v1)] [] μ 0 0 (L_Model_back_104 K n v1 μ) := by
  intro n
  induction n with
  | zero => intro v1 μ; exact AW.noth
  | succ n ih =>
    intro v1 μ
    rw [L_Model_back_104]
    refine AW.iload_n (i := 1) (a := v1) (by decide +kernel) rfl (?_ : AW _ _ _ _ 105 _ _ _ _ _ _)
    refine AW.bipush (n := 6) (by decide +kernel) (by decide +kernel) (?_ : AW _ _ _ _ 107 _ _ _ _ _ _)
    refine AW.icmp_ge (off := 24) (tgt := 131) (by decide +kernel) (by decide) (fun _ => ?_) (fun _ => ?_)
    · refine AW.sub (L' := [(0, zR (some 0))]) [0] rfl ?_
      exact hK  μ
    · refine AW.aload_n (i := 0) (a := 0) (by decide +kernel) rfl (?_ : AW _ _ _ _ 111 _ _ _ _ _ _)
      refine AW.getR (idx := 19) (ci := 9) (k := 4) (r := 0) (by decide +kernel) rfl rfl rfl (?_ : AW _ _ _ _ 114 _ _ _ _ _ _)
      refine AW.iload_n (i := 1) (a := v1) (by decide +kernel) rfl (?_ : AW _ _ _ _ 115 _ _ _ _ _ _)
      refine AW.aload_n (i := 0) (a := 0) (by decide +kernel) rfl (?_ : AW _ _ _ _ 116 _ _ _ _ _ _)
      refine AW.getR (idx := 54) (ci := 9) (k := 18) (r := 0) (by decide +kernel) rfl rfl rfl (?_ : AW _ _ _ _ 119 _ _ _ _ _ _)
      refine AW.bipush (n := 16) (by decide +kernel) (by decide +kernel) (?_ : AW _ _ _ _ 121 _ _ _ _ _ _)
      refine AW.iload_n (i := 1) (a := v1) (by decide +kernel) rfl (?_ : AW _ _ _ _ 122 _ _ _ _ _ _)
      refine AW.iadd (by decide +kernel) (?_ : AW _ _ _ _ 123 _ _ _ _ _ _)
      refine AW.iald (r := 14) (by decide +kernel) rfl (fun x16 => (?_ : AW _ _ _ _ 124 _ _ _ _ _ _))
      refine AW.iastL (r := 4) (by decide +kernel) rfl (fun μ17 => (?_ : AW _ _ _ _ 125 _ _ _ _ _ _))
      refine AW.iincL (i := 1) (n := 1) (a := v1) (L' := fun x18 => [(1, zI x18), (0, zR (some 0))]) (by decide +kernel) rfl (by decide) (fun _ => rfl) (fun x18 => (?_ : AW _ _ _ _ 128 _ _ _ _ _ _))
      refine AW.goto (off := -24) (tgt := 104) (by decide +kernel) (by decide) ?_
      refine AW.sub (L' := [(0, zR (some 0)), (1, zI x18)]) [1, 0] rfl ?_
      exact ih x18 μ17
def L_Model_back_133 (K : ZMem → Option ZRes) : Nat → Int → ZMem → Option ZRes
  | 0, _, _ => none
  | n + 1, v1, μ => if w32 300 ≤ w32 v1 then (K  μ) else (zRd μ 14 322 (22 + v1) (fun x20 => zWr μ 8 300 v1 x20 (fun μ21 => zLet (v1 + 1) (fun x22 => L_Model_back_133 K n x22 μ21))))
set_option maxRecDepth 100000 in
theorem l_Model_back_133 {K : ZMem → Option ZRes} (hK : ∀ (μ : ZMem), AW cf_Model_back S_Model.length S_Model S_Model 161 [(0, zR (some 0))] [] μ 0 0 (K μ)) : ∀ (n : Nat) (v1 : Int) (μ : ZMem), AW cf_Model_back S_Model.length S_Model S_Model 133 [(0, zR (some 0)), (1, zI v1)] [] μ 0 0 (L_Model_back_133 K n v1 μ) := by
  intro n
  induction n with
  | zero => intro v1 μ; exact AW.noth
  | succ n ih =>
    intro v1 μ
    rw [L_Model_back_133]
    refine AW.iload_n (i := 1) (a := v1) (by decide +kernel) rfl (?_ : AW _ _ _ _ 134 _ _ _ _ _ _)
    refine AW.sipush (n := 300) (by decide +kernel) (by decide +kernel) (?_ : AW _ _ _ _ 137 _ _ _ _ _ _)
    refine AW.icmp_ge (off := 24) (tgt := 161) (by decide +kernel) (by decide) (fun _ => ?_) (fun _ => ?_)
    · refine AW.sub (L' := [(0, zR (some 0))]) [0] rfl ?_
      exact hK  μ
    · refine AW.aload_n (i := 0) (a := 0) (by decide +kernel) rfl (?_ : AW _ _ _ _ 141 _ _ _ _ _ _)
      refine AW.getR (idx := 32) (ci := 9) (k := 10) (r := 0) (by decide +kernel) rfl rfl rfl (?_ : AW _ _ _ _ 144 _ _ _ _ _ _)
      refine AW.iload_n (i := 1) (a := v1) (by decide +kernel) rfl (?_ : AW _ _ _ _ 145 _ _ _ _ _ _)
      refine AW.aload_n (i := 0) (a := 0) (by decide +kernel) rfl (?_ : AW _ _ _ _ 146 _ _ _ _ _ _)
      refine AW.getR (idx := 54) (ci := 9) (k := 18) (r := 0) (by decide +kernel) rfl rfl rfl (?_ : AW _ _ _ _ 149 _ _ _ _ _ _)
      refine AW.bipush (n := 22) (by decide +kernel) (by decide +kernel) (?_ : AW _ _ _ _ 151 _ _ _ _ _ _)
      refine AW.iload_n (i := 1) (a := v1) (by decide +kernel) rfl (?_ : AW _ _ _ _ 152 _ _ _ _ _ _)
      refine AW.iadd (by decide +kernel) (?_ : AW _ _ _ _ 153 _ _ _ _ _ _)
      refine AW.iald (r := 14) (by decide +kernel) rfl (fun x20 => (?_ : AW _ _ _ _ 154 _ _ _ _ _ _))
      refine AW.iastL (r := 8) (by decide +kernel) rfl (fun μ21 => (?_ : AW _ _ _ _ 155 _ _ _ _ _ _))
      refine AW.iincL (i := 1) (n := 1) (a := v1) (L' := fun x22 => [(1, zI x22), (0, zR (some 0))]) (by decide +kernel) rfl (by decide) (fun _ => rfl) (fun x22 => (?_ : AW _ _ _ _ 158 _ _ _ _ _ _))
      refine AW.goto (off := -25) (tgt := 133) (by decide +kernel) (by decide) ?_
      refine AW.sub (L' := [(0, zR (some 0)), (1, zI x22)]) [1, 0] rfl ?_
      exact ih x22 μ21
def F_Model_back (μ : ZMem) : Option ZRes := zLet (zUp μ 0 0 0) (fun μ1 => if w32 (μ1 0 19) = 0 then (some (.inr (some (zI 0)), μ1)) else (L_Model_back_16 (fun μ5 => L_Model_back_42 (fun μ9 => zRd μ9 14 322 13 (fun x10 => zLet (zUp μ9 0 5 x10) (fun μ11 => zRd μ11 14 322 14 (fun x12 => zLet (zUp μ11 0 6 x12) (fun μ13 => zRd μ13 14 322 15 (fun x14 => zLet (zUp μ13 0 11 x14) (fun μ15 => L_Model_back_104 (fun μ19 => L_Model_back_133 (fun μ23 => zC (F_Model_worksOut  μ23) (zkV (fun μ24 => some (.inr (some (zI 1)), μ24))) zX0) zN 0 μ19) zN 0 μ15))))))) zN 0 μ5) zN 0 μ1))
set_option maxRecDepth 100000 in
theorem w_Model_back (μ : ZMem) : AW cf_Model_back S_Model.length S_Model S_Model 0 [(0, zR (some 0))] [] μ 0 0 (F_Model_back μ) := by
  unfold F_Model_back
  refine AW.aload_n (i := 0) (a := 0) (by decide +kernel) rfl (?_ : AW _ _ _ _ 1 _ _ _ _ _ _)
  refine AW.iconst (n := 0) (by decide +kernel) (?_ : AW _ _ _ _ 2 _ _ _ _ _ _)
  refine AW.putiL (idx := 93) (ci := 9) (k := 0) (r := 0) (by decide +kernel) rfl rfl rfl (fun μ1 => (?_ : AW _ _ _ _ 5 _ _ _ _ _ _))
  refine AW.aload_n (i := 0) (a := 0) (by decide +kernel) rfl (?_ : AW _ _ _ _ 6 _ _ _ _ _ _)
  refine AW.getZ (idx := 435) (ci := 9) (k := 19) (r := 0) (by decide +kernel) rfl rfl rfl (?_ : AW _ _ _ _ 9 _ _ _ _ _ _)
  refine AW.if_ne (off := 5) (tgt := 14) (by decide +kernel) (by decide) (fun _ => ?_) (fun _ => ?_)
  · refine AW.iconst (n := 0) (by decide +kernel) (?_ : AW _ _ _ _ 13 _ _ _ _ _ _)
    exact AW.retb1 (by decide +kernel) rfl (by decide) (by decide) (by decide)
  · refine AW.iconst (n := 0) (by decide +kernel) (?_ : AW _ _ _ _ 15 _ _ _ _ _ _)
    refine AW.istore_n' (i := 1) (L' := [(1, zI 0), (0, zR (some 0))]) (by decide +kernel) (by decide) rfl (?_ : AW _ _ _ _ 16 _ _ _ _ _ _)
    refine AW.sub (L' := [(0, zR (some 0)), (1, zI 0)]) [1, 0] rfl ?_
    refine l_Model_back_16 (fun μ5 => ?_) zN _ _
    refine AW.iconst (n := 0) (by decide +kernel) (?_ : AW _ _ _ _ 41 _ _ _ _ _ _)
    refine AW.istore_n' (i := 1) (L' := [(1, zI 0), (0, zR (some 0))]) (by decide +kernel) (by decide) rfl (?_ : AW _ _ _ _ 42 _ _ _ _ _ _)
    refine AW.sub (L' := [(0, zR (some 0)), (1, zI 0)]) [1, 0] rfl ?_
    refine l_Model_back_42 (fun μ9 => ?_) zN _ _
    refine AW.aload_n (i := 0) (a := 0) (by decide +kernel) rfl (?_ : AW _ _ _ _ 70 _ _ _ _ _ _)
    refine AW.aload_n (i := 0) (a := 0) (by decide +kernel) rfl (?_ : AW _ _ _ _ 71 _ _ _ _ _ _)
    refine AW.getR (idx := 54) (ci := 9) (k := 18) (r := 0) (by decide +kernel) rfl rfl rfl (?_ : AW _ _ _ _ 74 _ _ _ _ _ _)
    refine AW.bipush (n := 13) (by decide +kernel) (by decide +kernel) (?_ : AW _ _ _ _ 76 _ _ _ _ _ _)
    refine AW.iald (r := 14) (by decide +kernel) rfl (fun x10 => (?_ : AW _ _ _ _ 77 _ _ _ _ _ _))
    refine AW.putiL (idx := 96) (ci := 9) (k := 5) (r := 0) (by decide +kernel) rfl rfl rfl (fun μ11 => (?_ : AW _ _ _ _ 80 _ _ _ _ _ _))
    refine AW.aload_n (i := 0) (a := 0) (by decide +kernel) rfl (?_ : AW _ _ _ _ 81 _ _ _ _ _ _)
    refine AW.aload_n (i := 0) (a := 0) (by decide +kernel) rfl (?_ : AW _ _ _ _ 82 _ _ _ _ _ _)
    refine AW.getR (idx := 54) (ci := 9) (k := 18) (r := 0) (by decide +kernel) rfl rfl rfl (?_ : AW _ _ _ _ 85 _ _ _ _ _ _)
    refine AW.bipush (n := 14) (by decide +kernel) (by decide +kernel) (?_ : AW _ _ _ _ 87 _ _ _ _ _ _)
    refine AW.iald (r := 14) (by decide +kernel) rfl (fun x12 => (?_ : AW _ _ _ _ 88 _ _ _ _ _ _))
    refine AW.putiL (idx := 103) (ci := 9) (k := 6) (r := 0) (by decide +kernel) rfl rfl rfl (fun μ13 => (?_ : AW _ _ _ _ 91 _ _ _ _ _ _))
    refine AW.aload_n (i := 0) (a := 0) (by decide +kernel) rfl (?_ : AW _ _ _ _ 92 _ _ _ _ _ _)
    refine AW.aload_n (i := 0) (a := 0) (by decide +kernel) rfl (?_ : AW _ _ _ _ 93 _ _ _ _ _ _)
    refine AW.getR (idx := 54) (ci := 9) (k := 18) (r := 0) (by decide +kernel) rfl rfl rfl (?_ : AW _ _ _ _ 96 _ _ _ _ _ _)
    refine AW.bipush (n := 15) (by decide +kernel) (by decide +kernel) (?_ : AW _ _ _ _ 98 _ _ _ _ _ _)
    refine AW.iald (r := 14) (by decide +kernel) rfl (fun x14 => (?_ : AW _ _ _ _ 99 _ _ _ _ _ _))
    refine AW.putiL (idx := 116) (ci := 9) (k := 11) (r := 0) (by decide +kernel) rfl rfl rfl (fun μ15 => (?_ : AW _ _ _ _ 102 _ _ _ _ _ _))
    refine AW.iconst (n := 0) (by decide +kernel) (?_ : AW _ _ _ _ 103 _ _ _ _ _ _)
    refine AW.istore_n' (i := 1) (L' := [(1, zI 0), (0, zR (some 0))]) (by decide +kernel) (by decide) rfl (?_ : AW _ _ _ _ 104 _ _ _ _ _ _)
    refine AW.sub (L' := [(0, zR (some 0)), (1, zI 0)]) [1, 0] rfl ?_
    refine l_Model_back_104 (fun μ19 => ?_) zN _ _
    refine AW.iconst (n := 0) (by decide +kernel) (?_ : AW _ _ _ _ 132 _ _ _ _ _ _)
    refine AW.istore_n' (i := 1) (L' := [(1, zI 0), (0, zR (some 0))]) (by decide +kernel) (by decide) rfl (?_ : AW _ _ _ _ 133 _ _ _ _ _ _)
    refine AW.sub (L' := [(0, zR (some 0)), (1, zI 0)]) [1, 0] rfl ?_
    refine l_Model_back_133 (fun μ23 => ?_) zN _ _
    refine AW.aload_n (i := 0) (a := 0) (by decide +kernel) rfl (?_ : AW _ _ _ _ 162 _ _ _ _ _ _)
    refine AW.callVw (g := cf_Model_worksOut) (av := []) (b0 := 0) (ci := 9) (idx := 342) (n := 0) (st := []) (by decide +kernel) (fun l hl r hr => c_Model_worksOut l hl  _ r hr) S_Model_wf rfl cal_Model_worksOut rfl (zw4 zm_X9_342 zi_yX9_worksOut zs_yX9_worksOut zn_X9) rfl rfl ⟨by decide, by decide, by decide, by decide⟩ (Nat.le_of_ble_eq_true rfl) (Or.inl rfl) (fun v μ24 => AW.kV (?_ : AW _ _ _ _ 165 _ _ _ _ _ _) v)
    refine AW.iconst (n := 1) (by decide +kernel) (?_ : AW _ _ _ _ 166 _ _ _ _ _ _)
    exact AW.retb1 (by decide +kernel) rfl (by decide) (by decide) (by decide)
theorem c_Model_back (l : Launch) (hl : l.stackTraces = false) (μ : ZMem) (r : ZRes) (h : F_Model_back μ = some r) : ZC l cf_Model_back S_Model S_Model [zR (some 0)] μ r := ZC.of hl (by decide +kernel) rfl rfl zft_X9_ok (Nat.le_of_ble_eq_true rfl) h (w_Model_back μ)
/-! WeirLedgerModel.count(I)I -/
def cf_Model_count : ZCf := (yX9_count, cX9_count, 2, some .int, [], 2, 0, 0, zft_X9, none)
theorem cal_Model_count : zCallee cf_Model_count 1 := ⟨rfl, zc_yX9_count, by decide, by decide, by decide +kernel⟩
def F_Model_count (a1 : Int) (μ : ZMem) : Option ZRes := zLet (zUp μ 0 0 0) (fun μ1 => if w32 a1 = 0 then (some (.inr (some (zI (μ1 0 5))), μ1)) else (if w32 a1 = 1 then (some (.inr (some (zI (μ1 0 6))), μ1)) else (if w32 a1 = 2 then (zRd μ1 5 92 90 (fun x5 => some (.inr (some (zI x5)), μ1))) else (if w32 a1 = 3 then (some (.inr (some (zI (μ1 0 11))), μ1)) else (if w32 a1 = 4 then (zRd μ1 5 92 91 (fun x8 => some (.inr (some (zI x8)), μ1))) else (some (.inr (some (zI (-1))), μ1)))))))
set_option maxRecDepth 100000 in
theorem w_Model_count (a1 : Int) (μ : ZMem) : AW cf_Model_count S_Model.length S_Model S_Model 0 [(0, zR (some 0)), (1, zI a1)] [] μ 0 0 (F_Model_count a1 μ) := by
  unfold F_Model_count
  refine AW.aload_n (i := 0) (a := 0) (by decide +kernel) rfl (?_ : AW _ _ _ _ 1 _ _ _ _ _ _)
  refine AW.iconst (n := 0) (by decide +kernel) (?_ : AW _ _ _ _ 2 _ _ _ _ _ _)
  refine AW.putiL (idx := 93) (ci := 9) (k := 0) (r := 0) (by decide +kernel) rfl rfl rfl (fun μ1 => (?_ : AW _ _ _ _ 5 _ _ _ _ _ _))
  refine AW.iload_n (i := 1) (a := a1) (by decide +kernel) rfl (?_ : AW _ _ _ _ 6 _ _ _ _ _ _)
  refine AW.tswC (dflt := 67) (lo := 0) (hi := 4) (offs := #[34, 39, 44, 53, 58]) (len := 34) (k := 0) (off := 34) (tgt := 40) (by decide +kernel) (by decide) (by decide) rfl (by decide) (fun _ => ?_) (fun h2 => ?_)
  · refine AW.aload_n (i := 0) (a := 0) (by decide +kernel) rfl (?_ : AW _ _ _ _ 41 _ _ _ _ _ _)
    refine AW.getI (idx := 96) (ci := 9) (k := 5) (r := 0) (by decide +kernel) rfl rfl rfl (?_ : AW _ _ _ _ 44 _ _ _ _ _ _)
    exact AW.reti (by decide +kernel) rfl (by decide) (by decide)
  refine AW.tswC (dflt := 67) (lo := 0) (hi := 4) (offs := #[34, 39, 44, 53, 58]) (len := 34) (k := 1) (off := 39) (tgt := 45) (by decide +kernel) (by decide) (by decide) rfl (by decide) (fun _ => ?_) (fun h3 => ?_)
  · refine AW.aload_n (i := 0) (a := 0) (by decide +kernel) rfl (?_ : AW _ _ _ _ 46 _ _ _ _ _ _)
    refine AW.getI (idx := 103) (ci := 9) (k := 6) (r := 0) (by decide +kernel) rfl rfl rfl (?_ : AW _ _ _ _ 49 _ _ _ _ _ _)
    exact AW.reti (by decide +kernel) rfl (by decide) (by decide)
  refine AW.tswC (dflt := 67) (lo := 0) (hi := 4) (offs := #[34, 39, 44, 53, 58]) (len := 34) (k := 2) (off := 44) (tgt := 50) (by decide +kernel) (by decide) (by decide) rfl (by decide) (fun _ => ?_) (fun h4 => ?_)
  · refine AW.aload_n (i := 0) (a := 0) (by decide +kernel) rfl (?_ : AW _ _ _ _ 51 _ _ _ _ _ _)
    refine AW.getR (idx := 22) (ci := 9) (k := 7) (r := 0) (by decide +kernel) rfl rfl rfl (?_ : AW _ _ _ _ 54 _ _ _ _ _ _)
    refine AW.bipush (n := 90) (by decide +kernel) (by decide +kernel) (?_ : AW _ _ _ _ 56 _ _ _ _ _ _)
    refine AW.lald (r := 5) (by decide +kernel) rfl (fun x5 => (?_ : AW _ _ _ _ 57 _ _ _ _ _ _))
    refine AW.l2i (by decide +kernel) (?_ : AW _ _ _ _ 58 _ _ _ _ _ _)
    exact AW.reti (by decide +kernel) rfl (by decide) (by decide)
  refine AW.tswC (dflt := 67) (lo := 0) (hi := 4) (offs := #[34, 39, 44, 53, 58]) (len := 34) (k := 3) (off := 53) (tgt := 59) (by decide +kernel) (by decide) (by decide) rfl (by decide) (fun _ => ?_) (fun h6 => ?_)
  · refine AW.aload_n (i := 0) (a := 0) (by decide +kernel) rfl (?_ : AW _ _ _ _ 60 _ _ _ _ _ _)
    refine AW.getI (idx := 116) (ci := 9) (k := 11) (r := 0) (by decide +kernel) rfl rfl rfl (?_ : AW _ _ _ _ 63 _ _ _ _ _ _)
    exact AW.reti (by decide +kernel) rfl (by decide) (by decide)
  refine AW.tswC (dflt := 67) (lo := 0) (hi := 4) (offs := #[34, 39, 44, 53, 58]) (len := 34) (k := 4) (off := 58) (tgt := 64) (by decide +kernel) (by decide) (by decide) rfl (by decide) (fun _ => ?_) (fun h7 => ?_)
  · refine AW.aload_n (i := 0) (a := 0) (by decide +kernel) rfl (?_ : AW _ _ _ _ 65 _ _ _ _ _ _)
    refine AW.getR (idx := 22) (ci := 9) (k := 7) (r := 0) (by decide +kernel) rfl rfl rfl (?_ : AW _ _ _ _ 68 _ _ _ _ _ _)
    refine AW.bipush (n := 91) (by decide +kernel) (by decide +kernel) (?_ : AW _ _ _ _ 70 _ _ _ _ _ _)
    refine AW.lald (r := 5) (by decide +kernel) rfl (fun x8 => (?_ : AW _ _ _ _ 71 _ _ _ _ _ _))
    refine AW.l2i (by decide +kernel) (?_ : AW _ _ _ _ 72 _ _ _ _ _ _)
    exact AW.reti (by decide +kernel) rfl (by decide) (by decide)
  refine AW.tswD (dflt := 67) (lo := 0) (hi := 4) (offs := #[34, 39, 44, 53, 58]) (len := 34) (tgt := 73) (by decide +kernel) (by omega) (by decide) ?_
  refine AW.iconst (n := -1) (by decide +kernel) (?_ : AW _ _ _ _ 74 _ _ _ _ _ _)
  exact AW.reti (by decide +kernel) rfl (by decide) (by decide)
theorem c_Model_count (l : Launch) (hl : l.stackTraces = false) (a1 : Int) (μ : ZMem) (r : ZRes) (h : F_Model_count a1 μ = some r) : ZC l cf_Model_count S_Model S_Model [zR (some 0), zI a1] μ r := ZC.of hl (by decide +kernel) rfl rfl zft_X9_ok (Nat.le_of_ble_eq_true rfl) h (w_Model_count a1 μ)
