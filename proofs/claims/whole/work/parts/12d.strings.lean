/-! ===== texts: String.length and String.charAt of the constants ===== -/
theorem zls_v : Cond.fieldLink RJ0 9 "java/lang/String" "value" "[B" ∈ zAll := zAll_in (List.mem_of_getElem? (i := 1913) (by decide +kernel)) (by decide +kernel)
theorem zls_c : Cond.fieldLink RJ0 15 "java/lang/String" "coder" "B" ∈ zAll := zAll_in (List.mem_of_getElem? (i := 1914) (by decide +kernel)) (by decide +kernel)
theorem zls_k : Cond.fieldLink RJ0 38 "java/lang/String" "COMPACT_STRINGS" "Z" ∈ zAll := zAll_in (List.mem_of_getElem? (i := 722) (by decide +kernel)) (by decide +kernel)
theorem zls_s : Cond.fieldLink RJ0 1053 "jdk/internal/util/Preconditions" "SIOOBE_FORMATTER" "Ljava/util/function/BiFunction;" ∈ zAll := zAll_in (List.mem_of_getElem? (i := 742) (by decide +kernel)) (by decide +kernel)
section ZT
variable {f g : ZCf} {n0 : Nat} {S1 S : List ZSh} {pc : Nat} {L : List (Nat × ZV)} {st stk : List ZV} {μ : ZMem} {kc ks : Nat} {o x : Option ZRes} {K : Option ZV → ZMem → Option ZRes} {av : List ZV} {idx n j : Nat}
set_option maxHeartbeats 1000000 in
theorem AW.callT {j : Nat} (hj : j < 19) (hd : decode (zcc f) pc = .ok (.invokevirtual idx, 3)) (hg : ∀ l : Launch, l.stackTraces = false → ∀ r, x = some r → ZC l g [] [] (zR (some (zSB + j)) :: av) μ r)
    (hst : stk = av.reverse ++ zR (some (zSB + j)) :: st) (hcal : zCallee g n) (hn : av.length = n) (hw : ∀ w ∈ [Cond.methodLink (zy f).cls idx (zy g), .instanceMethod (zy g), .selects (zy g).cls (zy g) (zy g), .initialized (zy g).cls], w ∈ zAll)
    (hcl9 : (zy g).cls = "java/lang/String") (hfit : zFit f g kc ks) (hrest : (st.map zcat).sum ≤ 8)
    (kr : ∀ v ν, AW f n0 S1 S (pc + 3) L (v.toList ++ st) μ (kc + zmc g) (ks + zms g) (K v ν)) : AW f n0 S1 S pc L stk μ kc ks (zC x K zX0) := by
  intro p l e R s m args below meth c D G ad0 adV A Q C r9 hr9 hE ad H locs ls hag hP hD hS hl
  have hs : zSub S [] [] := ⟨rfl, rfl, rfl, rfl⟩
  have C0 := C
  obtain ⟨hx, hb, -, hml, hown, hts, hlk, hK, hA, hX, ⟨hRf, hRl, hRc, hRs⟩, htab, hlt, -, -⟩ := C0
  have hX' := hX.ad (ad' := ad) (fun k hk => hag k (Or.inr hk))
  cases hxx : x with
  | none => rw [hxx] at hr9; cases hr9
  | some r =>
    obtain ⟨hhg, hwg, hy1, hy2, hyd⟩ := hcal
    have hws : zWs g = Cond.code (zy g) (zcc g) (znL g) (zrt g) :: zAll := by
      unfold zWs zWd
      rw [hhg]
    obtain ⟨f1, f2, f3, f4⟩ := hfit
    have hM := hg l hlt r hxx D G ad adV H.size
    have e1 : stk.map (zTr ad) = (av.map (zTr ad)).reverse ++ Value.ref (ad (zSB + j)) :: st.map (zTr ad) := by
      rw [hst, List.map_append, List.map_reverse, List.map_cons]
      rfl
    have hrc := vk_recv (i := j) hX'.1 hj hS
    have hrun := vx_runV (e := e) (below := below) (meth := meth) (locs := locs) (cells := kc) (slots := ks) (g := F0 m pc ls (stk.map (zTr ad))) (rest := st.map (zTr ad)) (As := av.map (zTr ad)) (b := ad (zSB + j)) (C := (zy g).cls) (R := R) ⟨hx, hb, hml, hown, hts⟩ hM
      (cwV n hts (zGoodWs hw hwg) hws rfl rfl ⟨rfl, hy1, hy2, hyd⟩ ⟨Nat.le_trans f1 hRf, by show 8 + (znL g + 11) + 64 * zdp g ≤ R.locals; omega⟩)
      ⟨zBlind, by rw [hcl9]; exact hrc, zPre_of (pl := []) (Sg := []) (av := zR (some (zSB + j)) :: av) hs hP hD hS hA hK hX'⟩ rfl (by rw [List.length_map]; exact hn) hl.1 e1 (lv_room (by rw [List.map_map, show ((fun v : Value => v.category) ∘ zTr ad) = zcat from funext fun v => zcat_ok ad v]; exact hrest)) hd ⟨Nat.le_trans f3 hRc, Nat.le_trans f4 hRs⟩
    refine zAfter (pl := []) (Sg := []) hs hP hD hS hA hrun (fun v hv H1 locs1 hP1 hS1 => ?_) (fun E hE1 H1 locs1 q ce hP1 hS1 hq hcv hcl => ?_)
    · have ho : K v r.2 = some r9 := by
        rw [← hr9, hxx]
        obtain ⟨r1, r2⟩ := r
        cases hv
        rfl
      have w := kr v r.2 p l e R s m args below meth c D G ad0 adV A Q C r9 ho hE ad H1 locs1 ls hag hP1 (zD_mem hD) hS1 hl
      have e2 : (v.toList ++ st).map (zTr ad) = (v.map (zTr ad)).toList ++ st.map (zTr ad) := by
        rw [List.map_append]
        cases v <;> rfl
      rw [e2] at w
      exact w
    · rw [hxx] at hr9
      obtain ⟨r1, r2⟩ := r
      cases hE1
      cases hr9

theorem AW.ext {pc' : Nat} {st' : List ZV} (h : ∀ (p : Program) (l : Launch) (e : Env) (R : Room) (s : State) (m : MethodId) (args : Array Value) (below : List Frame) (meth : Method) (c : Code) (Q : State → Prop) (ad adV : Nat → Nat) (A : Nat → Prop) (H : Heap) (locs : List Loc) (ls : Array Slot), p.tables.exec = Jvm.exec → c.code = zcc f → s.vm.findClass (zy f).cls = some m.cls → (∀ w ∈ zAll, w.before args s = true) → zEX zTab ad adV A s s.heap → va_S A s.heap H locs →
      W p l e R s m args below meth c H locs kc ks Q (F0 m pc' ls (st'.map (zTr ad))) → W p l e R s m args below meth c H locs kc ks Q (F0 m pc ls (st.map (zTr ad))))
    (k : AW f n0 S1 S pc' L st' μ kc ks o) : AW f n0 S1 S pc L st μ kc ks o := by
  intro p l e R s m args below meth c D G ad0 adV A Q C r hr hE ad H locs ls hg hP hD hS hl
  exact h p l e R s m args below meth c Q ad adV A H locs ls C.1 C.2.1 C.2.2.2.2.1 C.2.2.2.2.2.1 (C.2.2.2.2.2.2.2.2.2.1.ad (fun k hk => hg k (Or.inr hk))) hS (k p l e R s m args below meth c D G ad0 adV A Q C r hr hE ad H locs ls hg hP hD hS hl)
theorem AW.ldcs {tx : String} {q : Nat} (hd : decode (zcc f) pc = .ok (.ldc idx, 2)) (hm : ((zy f).cls, idx, tx, j) ∈ zTab) (hq : zSB + j = q) (k : AW f n0 S1 S (pc + 2) L (zR (some q) :: st) μ kc ks o) : AW f n0 S1 S pc L st μ kc ks o := by
  subst hq
  exact AW.ext (fun _ _ _ _ _ _ _ _ _ _ _ _ _ _ _ _ _ hx hb ho ht hX hS w => va_ldcS hx hb ho (hX.2.1 _ hm) hd w) k
theorem zldcwS {p : Program} {l : Launch} {e : Env} {R : Room} {s : State} {m : MethodId} {args : Array Value} {below : List Frame} {meth : Method} {c : Code} {H : Heap} {locs : List Loc} {cells slots : Nat} {Q : State → Prop} {cc : ByteArray} {pc : Nat} {ls : Array Slot} {rest : List Value} (hexec : p.tables.exec = Jvm.exec) (hb : c.code = cc) {own tx : String} {index q : Nat} (hown : s.vm.findClass own = some m.cls) (hZ : vk_R own index tx q s) (hdg : decode cc pc = .ok (.ldc_w index, 3))
    (k : W p l e R s m args below meth c H locs cells slots Q (F0 m (pc + 3) ls (.ref q :: rest))) : W p l e R s m args below meth c H locs cells slots Q (F0 m pc ls rest) := by
  intro T hT X
  obtain ⟨t, a1, b1⟩ := k T hT X
  have h1 : (Cond.stringRef own index tx).before args s = true := hZ.1
  exact ⟨t, X.ldcStringW hexec hown (text := tx) (a := q) h1 hZ.2 (g := F0 m pc ls rest) rfl (by rw [hb]; exact hdg) t a1, b1⟩
theorem AW.ldcws {tx : String} {q : Nat} (hd : decode (zcc f) pc = .ok (.ldc_w idx, 3)) (hm : ((zy f).cls, idx, tx, j) ∈ zTab) (hq : zSB + j = q) (k : AW f n0 S1 S (pc + 3) L (zR (some q) :: st) μ kc ks o) : AW f n0 S1 S pc L st μ kc ks o := by
  subst hq
  exact AW.ext (fun _ _ _ _ _ _ _ _ _ _ _ _ _ _ _ _ _ hx hb ho ht hX hS w => zldcwS hx hb ho (hX.2.1 _ hm) hd w) k
theorem AW.sgetC (hj : j < 19) (hd : decode (zcc f) pc = .ok (.getfield idx, 3)) (hl : Cond.fieldLink (zy f).cls idx "java/lang/String" "coder" "B" ∈ zAll) (k : AW f n0 S1 S (pc + 3) L (zI 0 :: st) μ kc ks o) : AW f n0 S1 S pc L (zR (some (zSB + j)) :: st) μ kc ks o :=
  AW.ext (fun _ _ _ _ _ _ _ _ _ _ _ _ _ _ _ _ _ hx hb ho ht hX hS w => vk_getf hx hb (hX.1.1 j hj).2.1 hS ho (ht _ hl) (fun _ h => h) hd w) k
theorem AW.sgetV (hj : j < 19) (hd : decode (zcc f) pc = .ok (.getfield idx, 3)) (hl : Cond.fieldLink (zy f).cls idx "java/lang/String" "value" "[B" ∈ zAll) (k : AW f n0 S1 S (pc + 3) L (zR (some (zVB + j)) :: st) μ kc ks o) : AW f n0 S1 S pc L (zR (some (zSB + j)) :: st) μ kc ks o :=
  AW.ext (fun _ _ _ _ _ _ _ _ _ _ _ _ _ _ _ _ _ hx hb ho ht hX hS w => vk_getf hx hb (hX.1.1 j hj).2.2.1 hS ho (ht _ hl) (fun _ h => h) hd w) k
def zSl (j : Nat) : Int := ((zSlen.getD j 0 : Nat) : Int)
def zSc (j : Nat) (i : Int) : Int := ((zSbyt.getD j []).getD i.toNat 0).toInt
theorem AW.slenB (hj : j < 19) (hd : decode (zcc f) pc = .ok (.arraylength, 1)) (k : AW f n0 S1 S (pc + 1) L (zI (zSl j) :: st) μ kc ks o) : AW f n0 S1 S pc L (zR (some (zVB + j)) :: st) μ kc ks o :=
  AW.ext (fun _ _ _ _ _ _ _ _ _ _ _ _ _ _ _ _ _ hx hb ho ht hX hS w => va_tlen hx hb (hX.1.1 j hj).2.2.2 hS (v := Int32.ofInt (zSl j)) Int32.ofInt_eq_ofNat.symm hd w) k
theorem AW.sbald {i : Int} (hj : j < 19) (hi : 0 ≤ w32 i ∧ w32 i < zSl j) (hd : decode (zcc f) pc = .ok (.baload, 1)) (k : AW f n0 S1 S (pc + 1) L (zI (zSc j (w32 i)) :: st) μ kc ks o) : AW f n0 S1 S pc L (zI i :: zR (some (zVB + j)) :: st) μ kc ks o :=
  AW.ext (fun _ _ _ _ _ _ _ _ _ _ _ _ _ _ _ _ _ hx hb ho ht hX hS w => va_tb hx hb (hX.1.1 j hj).2.2.2 hS (zin32.mpr hi) (v := .int (Int32.ofInt (zSc j (w32 i)))) (by
    have e1 := zclamp hi.1
    have e2 : (Int32.ofInt i).toNatClampNeg = (w32 i).toNat := by omega
    rw [e2]
    unfold zSc
    rw [Int32.ofInt_toInt]) hd w) k
theorem AW.gcs (hd : decode (zcc f) pc = .ok (.getstatic idx, 3)) (hl : Cond.fieldLink (zy f).cls idx "java/lang/String" "COMPACT_STRINGS" "Z" ∈ zAll) (k : AW f n0 S1 S (pc + 3) L (zI 1 :: st) μ kc ks o) : AW f n0 S1 S pc L st μ kc ks o :=
  AW.ext (fun _ _ _ _ _ _ _ _ _ _ _ _ _ _ _ _ _ hx hb ho ht hX hS w => va_gets hx hb hX.2.2.2.2.1 hS ho (ht _ hl) (fun _ h => h) hd w) k
theorem AW.gsf (hd : decode (zcc f) pc = .ok (.getstatic idx, 3)) (hl : Cond.fieldLink (zy f).cls idx "jdk/internal/util/Preconditions" "SIOOBE_FORMATTER" "Ljava/util/function/BiFunction;" ∈ zAll) (k1 : AW f n0 S1 S (pc + 3) L (zR none :: st) μ kc ks o) (k2 : AW f n0 S1 S (pc + 3) L (zR (some zSF) :: st) μ kc ks o) : AW f n0 S1 S pc L st μ kc ks o := by
  intro p l e R s m args below meth c D G ad0 adV A Q C r hr hE ad H locs ls hg hP hD hS hl9
  have hX := C.2.2.2.2.2.2.2.2.2.1.ad (ad' := ad) (fun k hk => hg k (Or.inr hk))
  rcases hX.2.2.2.2.2.2.2.2.2.1 with h | h
  · exact va_gets C.1 C.2.1 h hS C.2.2.2.2.1 (C.2.2.2.2.2.1 _ hl) (fun _ h => h) hd (k1 p l e R s m args below meth c D G ad0 adV A Q C r hr hE ad H locs ls hg hP hD hS hl9)
  · exact va_gets C.1 C.2.1 h hS C.2.2.2.2.1 (C.2.2.2.2.2.1 _ hl) (fun _ h => h) hd (k2 p l e R s m args below meth c D G ad0 adV A Q C r hr hE ad H locs ls hg hP hD hS hl9)
def zi2c (a : Int) : Int := ((Int32.ofInt a).toUInt32 % 65536).toInt32.toInt
theorem AW.i2c {a : Int} (hd : decode (zcc f) pc = .ok (.i2c, 1)) (k : AW f n0 S1 S (pc + 1) L (zI (zi2c a) :: st) μ kc ks o) : AW f n0 S1 S pc L (zI a :: st) μ kc ks o :=
  AW.pure (fun _ _ _ _ _ _ _ _ _ _ _ _ _ _ _ hx hb _ w => lv_i2c hx hb hd (v := Int32.ofInt (zi2c a)) (Int32.ofInt_toInt _).symm w) k
theorem AW.retn {a : Int} {ty : FieldType} (hd : decode (zcc f) pc = .ok (.ireturn, 1)) (ht : zrt f = some ty) (ha : narrow ty (.int (Int32.ofInt a)) = .int (Int32.ofInt a)) (hc : kc ≤ zmc f) (hs : ks ≤ zms f) : AW f n0 S S pc L [zI a] μ kc ks (some (.inr (some (zI a)), μ)) := by
  intro p l e R s m args below meth c D G ad0 adV A Q C r hr hE ad H locs ls hg hP hD hS hl
  cases hr
  exact hE.1 (some (zI a)) rfl H locs kc ks ls pc _ hS ⟨ad, hg, hP, hD⟩ hc hs hd ⟨rfl, _, ht, ha⟩
end ZT
