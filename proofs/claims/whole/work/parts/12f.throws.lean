/-! ===== throwing: the words of 'throw new E()' ===== -/
abbrev zEn : List String := ["java/lang/RuntimeException", "java/lang/Exception"]
theorem zGoodOr (ws : List Cond) (ps : List Nat) (hp : ws = ps.filterMap (fun i => lw_tbl[i]?)) (h : ws.all (fun w => goodWord w || zWarm w) = true) : ∀ w ∈ ws, w ∈ zAll ∨ w ∈ zOther := by
  intro w hw
  have h1 := List.all_eq_true.mp h w hw
  rw [hp] at hw
  obtain ⟨i, -, hi⟩ := List.mem_filterMap.mp hw
  have hm : w ∈ lw_tbl := List.mem_of_getElem? hi
  rcases Bool.or_eq_true_iff.mp h1 with h2 | h2
  · exact Or.inl (List.mem_filter.mpr ⟨hm, h2⟩)
  · exact Or.inr (List.mem_filter.mpr ⟨hm, h2⟩)
def zTw (own : String) (ik ic : Nat) (E : String) : Prop := Bundle.fit E = true ∧ (∀ n ∈ zEn, Bundle.fit n = true) ∧ Cond.classLink own ik E ∈ zAll ∧ Cond.initialized E ∈ zAll ∧ (∀ w ∈ vx_at0 own ic E zEn, w ∈ zAll ∨ w ∈ zOther) ∧ (∀ w ∈ Cond.classLink own ik E :: Cond.initialized E :: vx_at0 own ic E zEn, vx_ot w = true)
theorem zThr_of {f : ZCf} {pc ik ic : Nat} {E : String} (h : zTw (zy f).cls ik ic E) (d0 : decode (zcc f) pc = .ok (.new ik, 3)) (d3 : decode (zcc f) (pc + 3) = .ok (.dup, 1)) (d4 : decode (zcc f) (pc + 4) = .ok (.invokespecial ic, 3)) (d7 : decode (zcc f) (pc + 7) = .ok (.athrow, 1)) (hh : zhh f = []) (hn : 5 < zdp f) : zThr f pc ik ic zEn E :=
  ⟨h.1, h.2.1, h.2.2.1, h.2.2.2.1, h.2.2.2.2.1, h.2.2.2.2.2, d0, d3, d4, d7, hh, hn⟩
theorem ztw_IllegalArgumentException : zTw RX8 83 85 "java/lang/IllegalArgumentException" := ⟨by decide +kernel, by decide +kernel, zAll_in (List.mem_of_getElem? (i := 822) (by decide +kernel)) (by decide +kernel), zAll_in (List.mem_of_getElem? (i := 88) (by decide +kernel)) (by decide +kernel), zGoodOr _ [85, 844, 853, 859, 862, 864, 845, 846, 102, 103, 847, 852, 860, 876, 834, 877, 836, 878, 838, 848, 850, 840, 866, 867, 868, 869, 825, 869, 870, 871, 872, 827, 872, 873, 874, 845, 829, 865, 823, 824, 831, 832, 833, 835, 837, 839, 843, 842, 841] (by decide +kernel) (by decide +kernel), by decide +kernel⟩
theorem ztw_NoSuchElementException : zTw RX8 106 108 "java/util/NoSuchElementException" := ⟨by decide +kernel, by decide +kernel, zAll_in (List.mem_of_getElem? (i := 951) (by decide +kernel)) (by decide +kernel), zAll_in (List.mem_of_getElem? (i := 91) (by decide +kernel)) (by decide +kernel), zGoodOr _ [85, 844, 853, 859, 862, 864, 845, 846, 102, 103, 847, 852, 860, 876, 834, 877, 836, 878, 838, 848, 850, 840, 961, 962, 963, 869, 825, 869, 870, 871, 872, 827, 872, 873, 874, 845, 829, 960, 952, 953, 954, 858, 955, 956, 957, 958, 843, 842, 959] (by decide +kernel) (by decide +kernel), by decide +kernel⟩
theorem ztw_IndexOutOfBoundsException : zTw RX8 117 119 "java/lang/IndexOutOfBoundsException" := ⟨by decide +kernel, by decide +kernel, zAll_in (List.mem_of_getElem? (i := 978) (by decide +kernel)) (by decide +kernel), zAll_in (List.mem_of_getElem? (i := 92) (by decide +kernel)) (by decide +kernel), zGoodOr _ [85, 844, 853, 859, 862, 864, 845, 846, 102, 103, 847, 852, 860, 876, 834, 877, 836, 878, 838, 848, 850, 840, 988, 989, 990, 869, 825, 869, 870, 871, 872, 827, 872, 873, 874, 845, 829, 987, 979, 980, 981, 856, 982, 983, 984, 985, 843, 842, 986] (by decide +kernel) (by decide +kernel), by decide +kernel⟩
theorem ztw_IllegalStateException : zTw RX8 168 170 "java/lang/IllegalStateException" := ⟨by decide +kernel, by decide +kernel, zAll_in (List.mem_of_getElem? (i := 1033) (by decide +kernel)) (by decide +kernel), zAll_in (List.mem_of_getElem? (i := 93) (by decide +kernel)) (by decide +kernel), zGoodOr _ [85, 844, 853, 859, 862, 864, 845, 846, 102, 103, 847, 852, 860, 876, 834, 877, 836, 878, 838, 848, 850, 840, 1043, 1044, 1045, 869, 825, 869, 870, 871, 872, 827, 872, 873, 874, 845, 829, 1042, 1034, 1035, 1036, 855, 1037, 1038, 1039, 1040, 843, 842, 1041] (by decide +kernel) (by decide +kernel), by decide +kernel⟩
theorem ztw_UnsupportedOperationException : zTw RX8 317 319 "java/lang/UnsupportedOperationException" := ⟨by decide +kernel, by decide +kernel, zAll_in (List.mem_of_getElem? (i := 1048) (by decide +kernel)) (by decide +kernel), zAll_in (List.mem_of_getElem? (i := 94) (by decide +kernel)) (by decide +kernel), zGoodOr _ [85, 844, 853, 859, 862, 864, 845, 846, 102, 103, 847, 852, 860, 876, 834, 877, 836, 878, 838, 848, 850, 840, 1058, 1059, 1060, 869, 825, 869, 870, 871, 872, 827, 872, 873, 874, 845, 829, 1057, 1049, 1050, 1051, 857, 1052, 1053, 1054, 1055, 843, 842, 1056] (by decide +kernel) (by decide +kernel), by decide +kernel⟩
section ZTX
variable {f : ZCf} {n0 : Nat} {S1 S : List ZSh} {pc : Nat} {L : List (Nat × ZV)} {st : List ZV} {μ : ZMem} {kc ks : Nat} {o : Option ZRes} {idx j : Nat}
/-- deep enough for String's methods -/
def zDeepS (f : ZCf) (st : List ZV) (kc ks : Nat) : Bool := Nat.ble 9 (zdp f) && Nat.ble (st.map zcat).sum 8 && Nat.ble kc (zmc f) && Nat.ble ks (zms f)
theorem zDeepS.of {f : ZCf} {st : List ZV} {kc ks : Nat} (h : zDeepS f st kc ks = true) : 9 ≤ zdp f ∧ (st.map zcat).sum ≤ 8 ∧ kc ≤ zmc f ∧ ks ≤ zms f := by
  unfold zDeepS at h
  simp only [Bool.and_eq_true] at h
  exact ⟨Nat.le_of_ble_eq_true h.1.1.1, Nat.le_of_ble_eq_true h.1.1.2, Nat.le_of_ble_eq_true h.1.2, Nat.le_of_ble_eq_true h.2⟩
def zSln (j : Nat) (K : Int → Option ZRes) : Option ZRes := if j < 19 then K (zSl j) else none
def zSch (j : Nat) (i : Int) (K : Int → Option ZRes) : Option ZRes := if j < 19 ∧ 0 ≤ w32 i ∧ w32 i < zSl j then K (zSc j (w32 i)) else none
theorem F_str_length_at {j : Nat} (h : j < 19) (μ : ZMem) : F_str_length j μ = some (.inr (some (zI (zSl j))), μ) := by
  show some (Sum.inr (some (zI (zshr (zSl j) 0))), μ) = _
  rw [(zSl_tab j h).2.2]
theorem F_str_charAt_at {j : Nat} {a : Int} (h : j < 19) (ha : 0 ≤ w32 a) (hb : w32 a < zSl j) (μ : ZMem) : F_str_charAt j a μ = some (.inr (some (zI (zSc j (w32 a)))), μ) := by
  show (if w32 1 = 0 then none else (if zi2c (zand (zSc j (w32 a)) 255) = zSc j (w32 a) then some (Sum.inr (some (zI (zi2c (zand (zSc j (w32 a)) 255)))), μ) else none)) = _
  rw [if_neg (by decide), if_pos (zSc_at h ha hb).1, (zSc_at h ha hb).1]
theorem AW.slen {K : Int → Option ZRes} (hd : decode (zcc f) pc = .ok (.invokevirtual idx, 3)) (hm : Cond.methodLink (zy f).cls idx yJ0_length_8abf5 ∈ zAll) (hz : zDeepS f st kc ks = true) (k : ∀ x, AW f n0 S1 S (pc + 3) L (zI x :: st) μ kc ks (K x)) : AW f n0 S1 S pc L (zR (some (zSB + j)) :: st) μ kc ks (zSln j K) := by
  unfold zSln
  by_cases hj : j < 19
  · rw [if_pos hj]
    obtain ⟨z1, z2, z3, z4⟩ := zDeepS.of hz
    have h := AW.callT (g := cf_str_length) (K := zkI (fun a _ => K a)) (av := []) (st := st) (n := 0) hj hd (fun l hl r hr => c_str_length l hl j μ r hj hr) rfl cal_str_length rfl (zw4 hm zi_yJ0_length_8abf5 zs_yJ0_length_8abf5 zn_J0) rfl (f := f) (n0 := n0) (S1 := S1) (S := S) (L := L) (kc := kc) (ks := ks) ⟨by show 4 + 1 ≤ zdp f; omega, by decide, z3, z4⟩ z2 (fun v _ => AW.kI (fun a => k a) v)
    rw [F_str_length_at hj] at h
    exact h
  · rw [if_neg hj]
    exact AW.noth
theorem AW.schr {i : Int} {K : Int → Option ZRes} (hd : decode (zcc f) pc = .ok (.invokevirtual idx, 3)) (hm : Cond.methodLink (zy f).cls idx yJ0_charAt_5068e ∈ zAll) (hz : zDeepS f st kc ks = true) (k : ∀ x, AW f n0 S1 S (pc + 3) L (zI x :: st) μ kc ks (K x)) : AW f n0 S1 S pc L (zI i :: zR (some (zSB + j)) :: st) μ kc ks (zSch j i K) := by
  unfold zSch
  by_cases hj : j < 19 ∧ 0 ≤ w32 i ∧ w32 i < zSl j
  · rw [if_pos hj]
    obtain ⟨hj, ha, hb⟩ := hj
    obtain ⟨z1, z2, z3, z4⟩ := zDeepS.of hz
    have h := AW.callT (g := cf_str_charAt) (K := zkI (fun a _ => K a)) (av := [zI i]) (st := st) (n := 1) hj hd (fun l hl r hr => c_str_charAt l hl j i μ r hj ha hb hr) rfl cal_str_charAt rfl (zw4 hm zi_yJ0_charAt_5068e zs_yJ0_charAt_5068e zn_J0) rfl (f := f) (n0 := n0) (S1 := S1) (S := S) (L := L) (kc := kc) (ks := ks) ⟨by show 8 + 1 ≤ zdp f; omega, by decide, z3, z4⟩ z2 (fun v _ => AW.kI (fun a => k a) v)
    rw [F_str_charAt_at hj ha hb] at h
    exact h
  · rw [if_neg hj]
    exact AW.noth
end ZTX
