/-! ===== String.length, String.charAt of a constant, walked ===== -/
theorem zSl_tab : ∀ j, j < 19 → w32 (zSl j) = zSl j ∧ zSl j < 9 ∧ zshr (zSl j) 0 = zSl j := by decide +kernel
theorem zSl_w {j : Nat} (h : j < 19) : w32 (zSl j) = zSl j := (zSl_tab j h).1
theorem zSc_tab : ∀ j, j < 19 → ∀ k, k < 9 → zi2c (zand (zSc j ((k : Nat) : Int)) 255) = zSc j ((k : Nat) : Int) ∧ narrow .char (.int (Int32.ofInt (zSc j ((k : Nat) : Int)))) = .int (Int32.ofInt (zSc j ((k : Nat) : Int))) := by decide +kernel
theorem zSc_at {j : Nat} {a : Int} (h : j < 19) (ha : 0 ≤ w32 a) (hb : w32 a < zSl j) : zi2c (zand (zSc j (w32 a)) 255) = zSc j (w32 a) ∧ narrow .char (.int (Int32.ofInt (zSc j (w32 a)))) = .int (Int32.ofInt (zSc j (w32 a))) := by
  obtain ⟨-, h2, -⟩ := zSl_tab j h
  obtain ⟨k, hk⟩ : ∃ k : Nat, w32 a = (k : Int) := ⟨(w32 a).toNat, by omega⟩
  rw [hk] at hb ⊢
  exact zSc_tab j h k (by omega)
theorem zchr_nar2 {j : Nat} {a : Int} (h : j < 19) (ha : 0 ≤ w32 a) (hb : w32 a < zSl j) : narrow .char (.int (Int32.ofInt (zSc j (w32 a)))) = .int (Int32.ofInt (zSc j (w32 a))) := (zSc_at h ha hb).2
theorem zchr_nar {j : Nat} {a : Int} (h : j < 19) (ha : 0 ≤ w32 a) (hb : w32 a < zSl j) : narrow .char (.int (Int32.ofInt (zi2c (zand (zSc j (w32 a)) 255)))) = .int (Int32.ofInt (zi2c (zand (zSc j (w32 a)) 255))) := by rw [(zSc_at h ha hb).1]; exact (zSc_at h ha hb).2
def cf_str_coder : ZCf := (yJ0_coder_7d493, cJ0_coder_7d493, 1, some .byte, [], 2, 0, 0, [], none)
theorem cal_str_coder : zCallee cf_str_coder 0 := ⟨rfl, zc_yJ0_coder_7d493, by decide, by decide, by decide +kernel⟩
def F_str_coder (j : Nat) (μ : ZMem) : Option ZRes := some (.inr (some (zI 0)), μ)
theorem w_str_coder (j : Nat) (μ : ZMem) (hj : j < 19) : AW cf_str_coder 0 [] [] 0 (zArgs 0 [zR (some (zSB + j))]) [] μ 0 0 (F_str_coder j μ) := by
  unfold F_str_coder
  refine AW.gcs (by decide +kernel) zls_k (?_ : AW _ _ _ _ 3 _ _ _ _ _ _)
  refine AW.neg (cnd := w32 1 = 0) (o1 := none) (by decide +kernel) (AW.if_eq (off := 10) (tgt := 13) (by decide +kernel) (by decide) (fun _ => AW.noth) (fun _ => ?_))
  refine AW.aload_n (i := 0) (a := zSB + j) (by decide +kernel) rfl (?_ : AW _ _ _ _ 7 _ _ _ _ _ _)
  refine AW.sgetC hj (by decide +kernel) zls_c (?_ : AW _ _ _ _ 10 _ _ _ _ _ _)
  refine AW.goto (off := 4) (tgt := 14) (by decide +kernel) (by decide) ?_
  exact AW.retn (by decide +kernel) rfl (by decide +kernel) (by decide) (by decide)
theorem c_str_coder (l : Launch) (hl : l.stackTraces = false) (j : Nat) (μ : ZMem) (r : ZRes) (hj : j < 19) (h : F_str_coder j μ = some r) : ZC l cf_str_coder [] [] [zR (some (zSB + j))] μ r := ZC.of hl (by decide +kernel) rfl rfl (fun _ h => absurd h List.not_mem_nil) (Nat.le_of_ble_eq_true rfl) h (w_str_coder j μ hj)
def cf_str_isLatin1 : ZCf := (yJ0_isLatin1_aae02, cJ0_isLatin1_aae02, 1, some .boolean, [], 2, 0, 0, [], none)
theorem cal_str_isLatin1 : zCallee cf_str_isLatin1 0 := ⟨rfl, zc_yJ0_isLatin1_aae02, by decide, by decide, by decide +kernel⟩
def F_str_isLatin1 (j : Nat) (μ : ZMem) : Option ZRes := some (.inr (some (zI 1)), μ)
theorem w_str_isLatin1 (j : Nat) (μ : ZMem) (hj : j < 19) : AW cf_str_isLatin1 0 [] [] 0 (zArgs 0 [zR (some (zSB + j))]) [] μ 0 0 (F_str_isLatin1 j μ) := by
  unfold F_str_isLatin1
  refine AW.gcs (by decide +kernel) zls_k (?_ : AW _ _ _ _ 3 _ _ _ _ _ _)
  refine AW.neg (cnd := w32 1 = 0) (o1 := none) (by decide +kernel) (AW.if_eq (off := 14) (tgt := 17) (by decide +kernel) (by decide) (fun _ => AW.noth) (fun _ => ?_))
  refine AW.aload_n (i := 0) (a := zSB + j) (by decide +kernel) rfl (?_ : AW _ _ _ _ 7 _ _ _ _ _ _)
  refine AW.sgetC hj (by decide +kernel) zls_c (?_ : AW _ _ _ _ 10 _ _ _ _ _ _)
  refine AW.pos (cnd := w32 0 = 0) (o2 := none) (by decide +kernel) (AW.if_ne (off := 7) (tgt := 17) (by decide +kernel) (by decide) (fun _ => ?_) (fun _ => AW.noth))
  refine AW.iconst (n := 1) (by decide +kernel) (?_ : AW _ _ _ _ 14 _ _ _ _ _ _)
  refine AW.goto (off := 4) (tgt := 18) (by decide +kernel) (by decide) ?_
  exact AW.retb1 (by decide +kernel) rfl (by decide) (by decide) (by decide)
theorem c_str_isLatin1 (l : Launch) (hl : l.stackTraces = false) (j : Nat) (μ : ZMem) (r : ZRes) (hj : j < 19) (h : F_str_isLatin1 j μ = some r) : ZC l cf_str_isLatin1 [] [] [zR (some (zSB + j))] μ r := ZC.of hl (by decide +kernel) rfl rfl (fun _ h => absurd h List.not_mem_nil) (Nat.le_of_ble_eq_true rfl) h (w_str_isLatin1 j μ hj)
def cf_str_length : ZCf := (yJ0_length_8abf5, cJ0_length_8abf5, 1, some .int, [], 4, 0, 0, [], none)
theorem cal_str_length : zCallee cf_str_length 0 := ⟨rfl, zc_yJ0_length_8abf5, by decide, by decide, by decide +kernel⟩
def F_str_length (j : Nat) (μ : ZMem) : Option ZRes := zC (F_str_coder j μ) (zkI (fun x _ => some (.inr (some (zI (zshr (zSl j) x))), μ))) zX0
theorem w_str_length (j : Nat) (μ : ZMem) (hj : j < 19) : AW cf_str_length 0 [] [] 0 (zArgs 0 [zR (some (zSB + j))]) [] μ 0 0 (F_str_length j μ) := by
  unfold F_str_length
  refine AW.aload_n (i := 0) (a := zSB + j) (by decide +kernel) rfl (?_ : AW _ _ _ _ 1 _ _ _ _ _ _)
  refine AW.sgetV hj (by decide +kernel) zls_v (?_ : AW _ _ _ _ 4 _ _ _ _ _ _)
  refine AW.slenB hj (by decide +kernel) (?_ : AW _ _ _ _ 5 _ _ _ _ _ _)
  refine AW.aload_n (i := 0) (a := zSB + j) (by decide +kernel) rfl (?_ : AW _ _ _ _ 6 _ _ _ _ _ _)
  refine AW.callT (g := cf_str_coder) (av := []) (idx := 335) (n := 0) (st := [zI (zSl j)]) hj (by decide +kernel) (fun l hl r hr => c_str_coder l hl j _ r hj hr) rfl cal_str_coder rfl (zw4 zm_J0_335 zi_yJ0_coder_7d493 zs_yJ0_coder_7d493 zn_J0) rfl ⟨by decide, by decide, by decide, by decide⟩ (Nat.le_of_ble_eq_true rfl) (fun v _ => AW.kI (fun x => (?_ : AW _ _ _ _ 9 _ _ _ _ _ _)) v)
  refine AW.ishr (by decide +kernel) (?_ : AW _ _ _ _ 10 _ _ _ _ _ _)
  exact AW.reti (by decide +kernel) rfl (by decide) (by decide)
theorem c_str_length (l : Launch) (hl : l.stackTraces = false) (j : Nat) (μ : ZMem) (r : ZRes) (hj : j < 19) (h : F_str_length j μ = some r) : ZC l cf_str_length [] [] [zR (some (zSB + j))] μ r := ZC.of hl (by decide +kernel) rfl rfl (fun _ h => absurd h List.not_mem_nil) (Nat.le_of_ble_eq_true rfl) h (w_str_length j μ hj)
def cf_pre_check0 : ZCf := (yJ3_checkIndex_8e157, cJ3_checkIndex_8e157, 3, some .int, [], 2, 0, 0, [], none)
theorem cal_pre_check0 : zCallee cf_pre_check0 3 := ⟨rfl, zc_yJ3_checkIndex_8e157, by decide, by decide, by decide +kernel⟩
def F_pre_check0 (a : Int) (b : Int) (μ : ZMem) : Option ZRes := some (.inr (some (zI a)), μ)
theorem w_pre_check0 (a : Int) (b : Int) (μ : ZMem) (ha : 0 ≤ w32 a) (hb : w32 a < w32 b) : AW cf_pre_check0 0 [] [] 0 (zArgs 0 [zI a, zI b, zR none]) [] μ 0 0 (F_pre_check0 a b μ) := by
  unfold F_pre_check0
  refine AW.iload_n (i := 0) (a := a) (by decide +kernel) rfl (?_ : AW _ _ _ _ 1 _ _ _ _ _ _)
  refine AW.neg (cnd := w32 a < 0) (o1 := none) (by omega) (AW.if_lt (off := 8) (tgt := 9) (by decide +kernel) (by decide) (fun _ => AW.noth) (fun _ => ?_))
  refine AW.iload_n (i := 0) (a := a) (by decide +kernel) rfl (?_ : AW _ _ _ _ 5 _ _ _ _ _ _)
  refine AW.iload_n (i := 1) (a := b) (by decide +kernel) rfl (?_ : AW _ _ _ _ 6 _ _ _ _ _ _)
  refine AW.pos (cnd := w32 a < w32 b) (o2 := none) hb (AW.icmp_lt (off := 10) (tgt := 16) (by decide +kernel) (by decide) (fun _ => ?_) (fun _ => AW.noth))
  refine AW.iload_n (i := 0) (a := a) (by decide +kernel) rfl (?_ : AW _ _ _ _ 17 _ _ _ _ _ _)
  exact AW.reti (by decide +kernel) rfl (by decide) (by decide)
theorem c_pre_check0 (l : Launch) (hl : l.stackTraces = false) (a : Int) (b : Int) (μ : ZMem) (r : ZRes) (ha : 0 ≤ w32 a) (hb : w32 a < w32 b) (h : F_pre_check0 a b μ = some r) : ZC l cf_pre_check0 [] [] [zI a, zI b, zR none] μ r := ZC.of hl (by decide +kernel) rfl rfl (fun _ h => absurd h List.not_mem_nil) (Nat.le_of_ble_eq_true rfl) h (w_pre_check0 a b μ ha hb)
def cf_pre_check1 : ZCf := (yJ3_checkIndex_8e157, cJ3_checkIndex_8e157, 3, some .int, [], 2, 0, 0, [], none)
theorem cal_pre_check1 : zCallee cf_pre_check1 3 := ⟨rfl, zc_yJ3_checkIndex_8e157, by decide, by decide, by decide +kernel⟩
def F_pre_check1 (a : Int) (b : Int) (μ : ZMem) : Option ZRes := some (.inr (some (zI a)), μ)
theorem w_pre_check1 (a : Int) (b : Int) (μ : ZMem) (ha : 0 ≤ w32 a) (hb : w32 a < w32 b) : AW cf_pre_check1 0 [] [] 0 (zArgs 0 [zI a, zI b, zR (some zSF)]) [] μ 0 0 (F_pre_check1 a b μ) := by
  unfold F_pre_check1
  refine AW.iload_n (i := 0) (a := a) (by decide +kernel) rfl (?_ : AW _ _ _ _ 1 _ _ _ _ _ _)
  refine AW.neg (cnd := w32 a < 0) (o1 := none) (by omega) (AW.if_lt (off := 8) (tgt := 9) (by decide +kernel) (by decide) (fun _ => AW.noth) (fun _ => ?_))
  refine AW.iload_n (i := 0) (a := a) (by decide +kernel) rfl (?_ : AW _ _ _ _ 5 _ _ _ _ _ _)
  refine AW.iload_n (i := 1) (a := b) (by decide +kernel) rfl (?_ : AW _ _ _ _ 6 _ _ _ _ _ _)
  refine AW.pos (cnd := w32 a < w32 b) (o2 := none) hb (AW.icmp_lt (off := 10) (tgt := 16) (by decide +kernel) (by decide) (fun _ => ?_) (fun _ => AW.noth))
  refine AW.iload_n (i := 0) (a := a) (by decide +kernel) rfl (?_ : AW _ _ _ _ 17 _ _ _ _ _ _)
  exact AW.reti (by decide +kernel) rfl (by decide) (by decide)
theorem c_pre_check1 (l : Launch) (hl : l.stackTraces = false) (a : Int) (b : Int) (μ : ZMem) (r : ZRes) (ha : 0 ≤ w32 a) (hb : w32 a < w32 b) (h : F_pre_check1 a b μ = some r) : ZC l cf_pre_check1 [] [] [zI a, zI b, zR (some zSF)] μ r := ZC.of hl (by decide +kernel) rfl rfl (fun _ h => absurd h List.not_mem_nil) (Nat.le_of_ble_eq_true rfl) h (w_pre_check1 a b μ ha hb)
def cf_str_check : ZCf := (yJ0_checkIndex_df160, cJ0_checkIndex_df160, 2, none, [], 4, 0, 0, [], none)
theorem cal_str_check : zCallee cf_str_check 2 := ⟨rfl, zc_yJ0_checkIndex_df160, by decide, by decide, by decide +kernel⟩
def F_str_check (a : Int) (b : Int) (μ : ZMem) : Option ZRes := zC (some (.inr (some (zI a)), μ)) (zkI (fun _ _ => some (.inr none, μ))) zX0
theorem w_str_check (a : Int) (b : Int) (μ : ZMem) (ha : 0 ≤ w32 a) (hb : w32 a < w32 b) : AW cf_str_check 0 [] [] 0 (zArgs 0 [zI a, zI b]) [] μ 0 0 (F_str_check a b μ) := by
  unfold F_str_check
  refine AW.iload_n (i := 0) (a := a) (by decide +kernel) rfl (?_ : AW _ _ _ _ 1 _ _ _ _ _ _)
  refine AW.iload_n (i := 1) (a := b) (by decide +kernel) rfl (?_ : AW _ _ _ _ 2 _ _ _ _ _ _)
  refine AW.gsf (by decide +kernel) zls_s (?_ : AW _ _ _ _ 5 _ _ _ _ _ _) (?_ : AW _ _ _ _ 5 _ _ _ _ _ _)
  · refine AW.callP (g := cf_pre_check0) (av := [zI a, zI b, zR none]) (idx := 1059) (n := 3) (st := []) (by decide +kernel) (fun l hl r hr => c_pre_check0 l hl a b _ r ha hb hr) rfl cal_pre_check0 rfl (zw3 zm_J0_1059 zt_yJ3_checkIndex_8e157 zn_J3) ⟨by decide, by decide, by decide, by decide⟩ (Nat.le_of_ble_eq_true rfl) (fun v _ => AW.kI (fun x => (?_ : AW _ _ _ _ 8 _ _ _ _ _ _)) v)
    refine AW.pop (by decide +kernel) rfl (?_ : AW _ _ _ _ 9 _ _ _ _ _ _)
    exact AW.retv (by decide +kernel) rfl (by decide) (by decide)
  · refine AW.callP (g := cf_pre_check1) (av := [zI a, zI b, zR (some zSF)]) (idx := 1059) (n := 3) (st := []) (by decide +kernel) (fun l hl r hr => c_pre_check1 l hl a b _ r ha hb hr) rfl cal_pre_check1 rfl (zw3 zm_J0_1059 zt_yJ3_checkIndex_8e157 zn_J3) ⟨by decide, by decide, by decide, by decide⟩ (Nat.le_of_ble_eq_true rfl) (fun v _ => AW.kI (fun x => (?_ : AW _ _ _ _ 8 _ _ _ _ _ _)) v)
    refine AW.pop (by decide +kernel) rfl (?_ : AW _ _ _ _ 9 _ _ _ _ _ _)
    exact AW.retv (by decide +kernel) rfl (by decide) (by decide)
theorem c_str_check (l : Launch) (hl : l.stackTraces = false) (a : Int) (b : Int) (μ : ZMem) (r : ZRes) (ha : 0 ≤ w32 a) (hb : w32 a < w32 b) (h : F_str_check a b μ = some r) : ZC l cf_str_check [] [] [zI a, zI b] μ r := ZC.of hl (by decide +kernel) rfl rfl (fun _ h => absurd h List.not_mem_nil) (Nat.le_of_ble_eq_true rfl) h (w_str_check a b μ ha hb)
def cf_lat_charAt : ZCf := (yJ1_charAt_3b067, cJ1_charAt_3b067, 2, some .char, [], 6, 0, 0, [], none)
theorem cal_lat_charAt : zCallee cf_lat_charAt 2 := ⟨rfl, zc_yJ1_charAt_3b067, by decide, by decide, by decide +kernel⟩
def F_lat_charAt (j : Nat) (a : Int) (μ : ZMem) : Option ZRes := zC (F_str_check a (zSl j) μ) (zkV (fun _ => some (.inr (some (zI (zi2c (zand (zSc j (w32 a)) 255)))), μ))) zX0
theorem w_lat_charAt (j : Nat) (a : Int) (μ : ZMem) (hj : j < 19) (ha : 0 ≤ w32 a) (hb : w32 a < zSl j) : AW cf_lat_charAt 0 [] [] 0 (zArgs 0 [zR (some (zVB + j)), zI a]) [] μ 0 0 (F_lat_charAt j a μ) := by
  unfold F_lat_charAt
  refine AW.iload_n (i := 1) (a := a) (by decide +kernel) rfl (?_ : AW _ _ _ _ 1 _ _ _ _ _ _)
  refine AW.aload_n (i := 0) (a := zVB + j) (by decide +kernel) rfl (?_ : AW _ _ _ _ 2 _ _ _ _ _ _)
  refine AW.slenB hj (by decide +kernel) (?_ : AW _ _ _ _ 3 _ _ _ _ _ _)
  refine AW.callP (g := cf_str_check) (av := [zI a, zI (zSl j)]) (idx := 9) (n := 2) (st := []) (by decide +kernel) (fun l hl r hr => c_str_check l hl a (zSl j) _ r ha (by rw [zSl_w hj]; exact hb) hr) rfl cal_str_check rfl (zw3 zm_J1_9 zt_yJ0_checkIndex_df160 zn_J0) ⟨by decide, by decide, by decide, by decide⟩ (Nat.le_of_ble_eq_true rfl) (fun v _ => AW.kV (?_ : AW _ _ _ _ 6 _ _ _ _ _ _) v)
  refine AW.aload_n (i := 0) (a := zVB + j) (by decide +kernel) rfl (?_ : AW _ _ _ _ 7 _ _ _ _ _ _)
  refine AW.iload_n (i := 1) (a := a) (by decide +kernel) rfl (?_ : AW _ _ _ _ 8 _ _ _ _ _ _)
  refine AW.sbald hj ⟨ha, hb⟩ (by decide +kernel) (?_ : AW _ _ _ _ 9 _ _ _ _ _ _)
  refine AW.sipush (n := 255) (by decide +kernel) (by decide +kernel) (?_ : AW _ _ _ _ 12 _ _ _ _ _ _)
  refine AW.iand (by decide +kernel) (?_ : AW _ _ _ _ 13 _ _ _ _ _ _)
  refine AW.i2c (by decide +kernel) (?_ : AW _ _ _ _ 14 _ _ _ _ _ _)
  exact AW.retn (by decide +kernel) rfl (zchr_nar hj ha hb) (by decide) (by decide)
theorem c_lat_charAt (l : Launch) (hl : l.stackTraces = false) (j : Nat) (a : Int) (μ : ZMem) (r : ZRes) (hj : j < 19) (ha : 0 ≤ w32 a) (hb : w32 a < zSl j) (h : F_lat_charAt j a μ = some r) : ZC l cf_lat_charAt [] [] [zR (some (zVB + j)), zI a] μ r := ZC.of hl (by decide +kernel) rfl rfl (fun _ h => absurd h List.not_mem_nil) (Nat.le_of_ble_eq_true rfl) h (w_lat_charAt j a μ hj ha hb)
def cf_str_charAt : ZCf := (yJ0_charAt_5068e, cJ0_charAt_5068e, 2, some .char, [], 8, 0, 0, [], none)
theorem cal_str_charAt : zCallee cf_str_charAt 1 := ⟨rfl, zc_yJ0_charAt_5068e, by decide, by decide, by decide +kernel⟩
def F_str_charAt (j : Nat) (a : Int) (μ : ZMem) : Option ZRes := zC (F_str_isLatin1 j μ) (zkI (fun x _ => if w32 x = 0 then none else zC (F_lat_charAt j a μ) (zkI (fun y _ => if y = zSc j (w32 a) then some (.inr (some (zI y)), μ) else none)) zX0)) zX0
theorem w_str_charAt (j : Nat) (a : Int) (μ : ZMem) (hj : j < 19) (ha : 0 ≤ w32 a) (hb : w32 a < zSl j) : AW cf_str_charAt 0 [] [] 0 (zArgs 0 [zR (some (zSB + j)), zI a]) [] μ 0 0 (F_str_charAt j a μ) := by
  unfold F_str_charAt
  refine AW.aload_n (i := 0) (a := zSB + j) (by decide +kernel) rfl (?_ : AW _ _ _ _ 1 _ _ _ _ _ _)
  refine AW.callT (g := cf_str_isLatin1) (av := []) (idx := 492) (n := 0) (st := []) hj (by decide +kernel) (fun l hl r hr => c_str_isLatin1 l hl j _ r hj hr) rfl cal_str_isLatin1 rfl (zw4 zm_J0_492 zi_yJ0_isLatin1_aae02 zs_yJ0_isLatin1_aae02 zn_J0) rfl ⟨by decide, by decide, by decide, by decide⟩ (Nat.le_of_ble_eq_true rfl) (fun v _ => AW.kI (fun x => (?_ : AW _ _ _ _ 4 _ _ _ _ _ _)) v)
  refine AW.if_eq (off := 12) (tgt := 16) (by decide +kernel) (by decide) (fun _ => AW.noth) (fun _ => ?_)
  refine AW.aload_n (i := 0) (a := zSB + j) (by decide +kernel) rfl (?_ : AW _ _ _ _ 8 _ _ _ _ _ _)
  refine AW.sgetV hj (by decide +kernel) zls_v (?_ : AW _ _ _ _ 11 _ _ _ _ _ _)
  refine AW.iload_n (i := 1) (a := a) (by decide +kernel) rfl (?_ : AW _ _ _ _ 12 _ _ _ _ _ _)
  refine AW.callP (g := cf_lat_charAt) (av := [zR (some (zVB + j)), zI a]) (idx := 495) (n := 2) (st := []) (by decide +kernel) (fun l hl r hr => c_lat_charAt l hl j a _ r hj ha hb hr) rfl cal_lat_charAt rfl (zw3 zm_J0_495 zt_yJ1_charAt_3b067 zn_J1) ⟨by decide, by decide, by decide, by decide⟩ (Nat.le_of_ble_eq_true rfl) (fun v _ => AW.kI (fun y => (?_ : AW _ _ _ _ 15 _ _ _ _ _ _)) v)
  refine AW.two' (fun h => ?_) (fun _ => AW.noth)
  subst h
  exact AW.retn (by decide +kernel) rfl (zchr_nar2 hj ha hb) (by decide) (by decide)
theorem c_str_charAt (l : Launch) (hl : l.stackTraces = false) (j : Nat) (a : Int) (μ : ZMem) (r : ZRes) (hj : j < 19) (ha : 0 ≤ w32 a) (hb : w32 a < zSl j) (h : F_str_charAt j a μ = some r) : ZC l cf_str_charAt [] [] [zR (some (zSB + j)), zI a] μ r := ZC.of hl (by decide +kernel) rfl rfl (fun _ h => absurd h List.not_mem_nil) (Nat.le_of_ble_eq_true rfl) h (w_str_charAt j a μ hj ha hb)
