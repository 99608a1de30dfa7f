/-! ===== the rules of the walk: constants, switches, JDK's Math and arraycopy, and rows with the new state named ===== -/
section ZM
variable {f : ZCf} {n0 : Nat} {S1 S : List ZSh} {pc : Nat} {L L' : List (Nat × ZV)} {st : List ZV} {μ : ZMem} {kc ks : Nat} {o o1 o2 : Option ZRes}
/-- fewer locals, in another order -/
theorem AW.sub (is : List Nat) (hL : is.filterMap (fun i => L[i]?) = L') (k : AW f n0 S1 S pc L' st μ kc ks o) : AW f n0 S1 S pc L st μ kc ks o := by
  intro p l e R s m args below meth c D G ad0 adV A Q C r hr hE ad H locs ls hg hP hD hS hl
  refine k p l e R s m args below meth c D G ad0 adV A Q C r hr hE ad H locs ls hg hP hD hS ⟨hl.1, hl.2.1, fun q hq => ?_⟩
  obtain ⟨q0, hq0, rfl⟩ := List.mem_map.mp hq
  rw [← hL] at hq0
  obtain ⟨i, -, hi⟩ := List.mem_filterMap.mp hq0
  exact hl.2.2 _ (List.mem_map.mpr ⟨q0, List.mem_of_getElem? hi, rfl⟩)
theorem AW.pos {cnd : Prop} [Decidable cnd] (h : cnd) (k : AW f n0 S1 S pc L st μ kc ks (if cnd then o1 else o2)) : AW f n0 S1 S pc L st μ kc ks o1 := by rw [if_pos h] at k; exact k
theorem AW.neg {cnd : Prop} [Decidable cnd] (h : ¬ cnd) (k : AW f n0 S1 S pc L st μ kc ks (if cnd then o1 else o2)) : AW f n0 S1 S pc L st μ kc ks o2 := by rw [if_neg h] at k; exact k
theorem AW.istore_n' {i : Fin 4} {a : Int} (hd : decode (zcc f) pc = .ok (.istore_n i, 1)) (hi : (i : Nat) < znL f) (hL : zSet1 L i (zI a) = L') (k : AW f n0 S1 S (pc + 1) L' st μ kc ks o) : AW f n0 S1 S pc L (zI a :: st) μ kc ks o := AW.istore_n hd hi (by rw [hL]; exact k)
theorem AW.istore' {i : Nat} {a : Int} (hd : decode (zcc f) pc = .ok (.istore i, 2)) (hi : i < znL f) (hL : zSet1 L i (zI a) = L') (k : AW f n0 S1 S (pc + 2) L' st μ kc ks o) : AW f n0 S1 S pc L (zI a :: st) μ kc ks o := AW.istore hd hi (by rw [hL]; exact k)
theorem AW.lstore_n' {i : Fin 4} {a : Int} (hd : decode (zcc f) pc = .ok (.lstore_n i, 1)) (hi : (i : Nat) + 1 < znL f) (hL : zSet2 L i (zJ a) = L') (k : AW f n0 S1 S (pc + 1) L' st μ kc ks o) : AW f n0 S1 S pc L (zJ a :: st) μ kc ks o := AW.lstore_n hd hi (by rw [hL]; exact k)
theorem AW.lstore' {i : Nat} {a : Int} (hd : decode (zcc f) pc = .ok (.lstore i, 2)) (hi : i + 1 < znL f) (hL : zSet2 L i (zJ a) = L') (k : AW f n0 S1 S (pc + 2) L' st μ kc ks o) : AW f n0 S1 S pc L (zJ a :: st) μ kc ks o := AW.lstore hd hi (by rw [hL]; exact k)
theorem AW.astore_n' {i : Fin 4} {a : Nat} (hd : decode (zcc f) pc = .ok (.astore_n i, 1)) (hi : (i : Nat) < znL f) (hL : zSet1 L i (zR (some a)) = L') (k : AW f n0 S1 S (pc + 1) L' st μ kc ks o) : AW f n0 S1 S pc L (zR (some a) :: st) μ kc ks o := AW.astore_n hd hi (by rw [hL]; exact k)
theorem AW.astore' {i : Nat} {a : Nat} (hd : decode (zcc f) pc = .ok (.astore i, 2)) (hi : i < znL f) (hL : zSet1 L i (zR (some a)) = L') (k : AW f n0 S1 S (pc + 2) L' st μ kc ks o) : AW f n0 S1 S pc L (zR (some a) :: st) μ kc ks o := AW.astore hd hi (by rw [hL]; exact k)
theorem AW.dstore_n' {i : Fin 4} {a : UInt64} (hd : decode (zcc f) pc = .ok (.dstore_n i, 1)) (hi : (i : Nat) + 1 < znL f) (hL : zSet2 L i (zD a) = L') (k : AW f n0 S1 S (pc + 1) L' st μ kc ks o) : AW f n0 S1 S pc L (zD a :: st) μ kc ks o := AW.dstore_n hd hi (by rw [hL]; exact k)
theorem AW.dstore' {i : Nat} {a : UInt64} (hd : decode (zcc f) pc = .ok (.dstore i, 2)) (hi : i + 1 < znL f) (hL : zSet2 L i (zD a) = L') (k : AW f n0 S1 S (pc + 2) L' st μ kc ks o) : AW f n0 S1 S pc L (zD a :: st) μ kc ks o := AW.dstore hd hi (by rw [hL]; exact k)
theorem AW.fstore' {i : Nat} {a : UInt32} (hd : decode (zcc f) pc = .ok (.fstore i, 2)) (hi : i < znL f) (hL : zSet1 L i (zF a) = L') (k : AW f n0 S1 S (pc + 2) L' st μ kc ks o) : AW f n0 S1 S pc L (zF a :: st) μ kc ks o := AW.fstore hd hi (by rw [hL]; exact k)
theorem AW.iinc' {i : Nat} {n a : Int} (hd : decode (zcc f) pc = .ok (.iinc i n, 3)) (hg : zGet L i = some (zI a)) (hi : i < znL f) (hL : zSet1 L i (zI (a + n)) = L') (k : AW f n0 S1 S (pc + 3) L' st μ kc ks o) : AW f n0 S1 S pc L st μ kc ks o := AW.iinc hd hg hi (by rw [hL]; exact k)
theorem AW.getR {idx ci k kd r x : Nat} {fl : List (Nat × Option Nat)} (hd : decode (zcc f) pc = .ok (.getfield idx, 3)) (hm : zLook (zft f) idx = some (ci, k, kd)) (hS : S[r]? = some (.inl (ci, fl))) (hf : fl[k]? = some (2, some x)) (kk : AW f n0 S1 S (pc + 3) L (zR (some x) :: st) μ kc ks o) : AW f n0 S1 S pc L (zR (some r) :: st) μ kc ks o := AW.getf hd hm hS hf kk
theorem AW.getI {idx ci k kd r : Nat} {x : Option Nat} {fl : List (Nat × Option Nat)} (hd : decode (zcc f) pc = .ok (.getfield idx, 3)) (hm : zLook (zft f) idx = some (ci, k, kd)) (hS : S[r]? = some (.inl (ci, fl))) (hf : fl[k]? = some (0, x)) (kk : AW f n0 S1 S (pc + 3) L (zI (μ r k) :: st) μ kc ks o) : AW f n0 S1 S pc L (zR (some r) :: st) μ kc ks o := AW.getf hd hm hS hf kk
theorem AW.getZ {idx ci k kd r : Nat} {x : Option Nat} {fl : List (Nat × Option Nat)} (hd : decode (zcc f) pc = .ok (.getfield idx, 3)) (hm : zLook (zft f) idx = some (ci, k, kd)) (hS : S[r]? = some (.inl (ci, fl))) (hf : fl[k]? = some (3, x)) (kk : AW f n0 S1 S (pc + 3) L (zI (μ r k) :: st) μ kc ks o) : AW f n0 S1 S pc L (zR (some r) :: st) μ kc ks o := AW.getf hd hm hS hf kk
theorem AW.getJ {idx ci k kd r : Nat} {x : Option Nat} {fl : List (Nat × Option Nat)} (hd : decode (zcc f) pc = .ok (.getfield idx, 3)) (hm : zLook (zft f) idx = some (ci, k, kd)) (hS : S[r]? = some (.inl (ci, fl))) (hf : fl[k]? = some (1, x)) (kk : AW f n0 S1 S (pc + 3) L (zJ (μ r k) :: st) μ kc ks o) : AW f n0 S1 S pc L (zR (some r) :: st) μ kc ks o := AW.getf hd hm hS hf kk
theorem AW.putb1 {idx ci k r : Nat} {a : Int} {x : Option Nat} {fl : List (Nat × Option Nat)} (hd : decode (zcc f) pc = .ok (.putfield idx, 3)) (hm : zLook (zft f) idx = some (ci, k, 3)) (hS : S[r]? = some (.inl (ci, fl))) (hf : fl[k]? = some (3, x)) (ha : a = 0 ∨ a = 1) (kk : AW f n0 S1 S (pc + 3) L st (zUp μ r k a) kc ks o) : AW f n0 S1 S pc L (zI a :: zR (some r) :: st) μ kc ks o :=
  AW.putn hd hm (by decide) hS hf (Or.inr (Or.inr ⟨rfl, rfl, ha⟩)) kk
theorem AW.alen {r kd n : Nat} {rs : List (Option Nat)} (hd : decode (zcc f) pc = .ok (.arraylength, 1)) (hS : S[r]? = some (.inr (kd, n, rs))) (hkd : kd < 2) (kk : AW f n0 S1 S (pc + 1) L (zI n :: st) μ kc ks o) : AW f n0 S1 S pc L (zR (some r) :: st) μ kc ks o := by
  intro p l e R s m args below meth c D G ad0 adV A Q C r9 hr hE ad H locs ls hg hP hD hS9 hl
  have w := kk p l e R s m args below meth c D G ad0 adV A Q C r9 hr hE ad H locs ls hg hP hD hS9 hl
  obtain ⟨hx, hb, -, -, -, -, -, hK, -⟩ := C
  have he := zConc_at (G := G) (ad := ad) (μ := μ) hS
  rcases kd with _ | _ | kd
  · exact va_alen hx hb hK hP r 0 he rfl (v := Int32.ofInt n) Int32.ofInt_eq_ofNat.symm hd w
  · exact va_alen hx hb hK hP r 1 he rfl (v := Int32.ofInt n) Int32.ofInt_eq_ofNat.symm hd w
  · omega
/-- what the tables say of constants -/
theorem AW.tab {pc' : Nat} {st' : List ZV} (h : ∀ (p : Program) (l : Launch) (e : Env) (R : Room) (s : State) (m : MethodId) (args : Array Value) (below : List Frame) (meth : Method) (c : Code) (Q : State → Prop) (ad : Nat → Nat) (H : Heap) (locs : List Loc) (ls : Array Slot), p.tables.exec = Jvm.exec → c.code = zcc f → s.vm.findClass (zy f).cls = some m.cls → (∀ w ∈ zAll, w.before args s = true) →
      W p l e R s m args below meth c H locs kc ks Q (F0 m pc' ls (st'.map (zTr ad))) → W p l e R s m args below meth c H locs kc ks Q (F0 m pc ls (st.map (zTr ad))))
    (k : AW f n0 S1 S pc' L st' μ kc ks o) : AW f n0 S1 S pc L st μ kc ks o := by
  intro p l e R s m args below meth c D G ad0 adV A Q C r hr hE ad H locs ls hg hP hD hS hl
  exact h p l e R s m args below meth c Q ad H locs ls C.1 C.2.1 C.2.2.2.2.1 C.2.2.2.2.2.1 (k p l e R s m args below meth c D G ad0 adV A Q C r hr hE ad H locs ls hg hP hD hS hl)
theorem AW.ldc2 {idx : Nat} {v : Int} (hd : decode (zcc f) pc = .ok (.ldc2_w idx, 3)) (hw : Cond.constantLong (zy f).cls idx (Int64.ofInt v) ∈ zAll) (k : AW f n0 S1 S (pc + 3) L (zJ v :: st) μ kc ks o) : AW f n0 S1 S pc L st μ kc ks o :=
  AW.tab (fun _ _ _ _ _ _ _ _ _ _ _ _ _ _ _ hx hb ho ht w => lv_ldc2 hx hb ho (ht _ hw) hd w) k
theorem AW.ldci {idx : Nat} {v : Int} (hd : decode (zcc f) pc = .ok (.ldc idx, 2)) (hw : Cond.constant (zy f).cls idx (Int32.ofInt v) ∈ zAll) (k : AW f n0 S1 S (pc + 2) L (zI v :: st) μ kc ks o) : AW f n0 S1 S pc L st μ kc ks o :=
  AW.tab (fun _ _ _ _ _ _ _ _ _ _ _ _ _ _ _ hx hb ho ht w => lv_ldc hx hb ho (ht _ hw) hd w) k
theorem AW.ldcw {idx : Nat} {v : Int} (hd : decode (zcc f) pc = .ok (.ldc_w idx, 3)) (hw : Cond.constant (zy f).cls idx (Int32.ofInt v) ∈ zAll) (k : AW f n0 S1 S (pc + 3) L (zI v :: st) μ kc ks o) : AW f n0 S1 S pc L st μ kc ks o :=
  AW.tab (fun _ _ _ _ _ _ _ _ _ _ _ _ _ _ _ hx hb ho ht w => lv_ldcw hx hb ho (ht _ hw) hd w) k
theorem AW.ldc2d {idx : Nat} {v : UInt64} (hd : decode (zcc f) pc = .ok (.ldc2_w idx, 3)) (hw : Cond.constantDouble (zy f).cls idx v ∈ zAll) (k : AW f n0 S1 S (pc + 3) L (zD v :: st) μ kc ks o) : AW f n0 S1 S pc L st μ kc ks o :=
  AW.tab (fun _ _ _ _ _ _ _ _ _ _ _ _ _ _ _ hx hb ho ht w => lv_ldc2d hx hb ho (ht _ hw) hd w) k
/-- a case of a table's switch -/
theorem AW.tswC {dflt lo hi : Int} {offs : Array Int} {len : Nat} {a k off : Int} {tgt : Nat} (hd : decode (zcc f) pc = .ok (.tableswitch dflt lo hi offs, len)) (h1 : lo ≤ k) (h2 : k ≤ hi) (ho : offs[(k - lo).toNat]? = some off) (ht : (pc : Int) + off = (tgt : Int))
    (k1 : w32 a = k → AW f n0 S1 S tgt L st μ kc ks o1) (k2 : ¬ (w32 a = k) → AW f n0 S1 S pc L (zI a :: st) μ kc ks o2) : AW f n0 S1 S pc L (zI a :: st) μ kc ks (if w32 a = k then o1 else o2) := by
  by_cases h : w32 a = k
  · rw [if_pos h]
    have ha : (Int32.ofInt a).toInt = k := h
    exact AW.pure (fun _ _ _ _ _ _ _ _ _ _ _ _ _ _ _ hx hb _ w => lv_tableIn hx hb hd (by rw [ha]; omega) (by rw [ha]; omega) (by rw [ha]; exact ho) ht w) (k1 h)
  · rw [if_neg h]
    exact k2 h
theorem AW.tswD {dflt lo hi : Int} {offs : Array Int} {len : Nat} {a : Int} {tgt : Nat} (hd : decode (zcc f) pc = .ok (.tableswitch dflt lo hi offs, len)) (h : w32 a < lo ∨ hi < w32 a) (ht : (pc : Int) + dflt = (tgt : Int))
    (k1 : AW f n0 S1 S tgt L st μ kc ks o) : AW f n0 S1 S pc L (zI a :: st) μ kc ks o :=
  AW.pure (fun _ _ _ _ _ _ _ _ _ _ _ _ _ _ _ hx hb _ w => lv_tableOut hx hb hd h ht w) k1
theorem AW.lsw {dflt : Int} {ps : Array (Int × Int)} {len : Nat} {a off : Int} {tgt : Nat} (hd : decode (zcc f) pc = .ok (.lookupswitch dflt ps, len)) (hp : (ps.toList.zip (ps.toList.drop 1)).all (fun (a, next) => a.1 < next.1) = true) (ho : Op.lookupswitch.offset ps.toList dflt (w32 a) = off) (ht : (pc : Int) + off = (tgt : Int))
    (k1 : AW f n0 S1 S tgt L st μ kc ks o) : AW f n0 S1 S pc L (zI a :: st) μ kc ks o :=
  AW.pure (fun _ _ _ _ _ _ _ _ _ _ _ _ _ _ _ hx hb _ w => lv_lookup hx hb hd hp ho ht w) k1
theorem AW.two' {cnd : Prop} [Decidable cnd] (k1 : cnd → AW f n0 S1 S pc L st μ kc ks o1) (k2 : ¬ cnd → AW f n0 S1 S pc L st μ kc ks o2) : AW f n0 S1 S pc L st μ kc ks (if cnd then o1 else o2) := by
  by_cases h : cnd
  · rw [if_pos h]; exact k1 h
  · rw [if_neg h]; exact k2 h
theorem zofs_hit {k o d : Int} {r : List (Int × Int)} {x : Int} (h : x = k) : Op.lookupswitch.offset ((k, o) :: r) d x = o := by
  rw [Op.lookupswitch.offset_cons, if_pos (by rw [h])]
theorem zofs_miss {k o d : Int} {r : List (Int × Int)} {x z : Int} (h : ¬ x = k) (hr : Op.lookupswitch.offset r d x = z) : Op.lookupswitch.offset ((k, o) :: r) d x = z := by
  rw [Op.lookupswitch.offset_cons, if_neg (fun q => h q.symm)]
  exact hr
theorem zofs_nil {d x : Int} : Op.lookupswitch.offset [] d x = d := rfl
end ZM
/-! ===== rows that name what is new: a number in a local, the memory behind a store or a call ===== -/
def zLet {α : Type} (x : α) (K : α → Option ZRes) : Option ZRes := K x
/-- the callee sees its part of the memory -/
def zVw (pl : List Nat) (μ : ZMem) : ZMem := fun k => μ (zRho pl k)
/-- a call in a part of the world: K and X go on with the caller's whole memory -/
def zCm (pl : List Nat) (μ : ZMem) (x : Option ZRes) (K : Option ZV → ZMem → Option ZRes) (X : String → ZMem → Option ZRes) : Option ZRes := zC x (fun v ν => K v (zMg pl μ ν)) (fun E ν => X E (zMg pl μ ν))
/-- what is thrown goes on to the caller -/
def zXo : String → ZMem → Option ZRes := fun E ν => some (.inl E, ν)
section ZN
variable {f g : ZCf} {n0 : Nat} {S1 S Sg : List ZSh} {pc : Nat} {L : List (Nat × ZV)} {st stk : List ZV} {μ : ZMem} {kc ks : Nat} {o o1 o2 x : Option ZRes} {pl : List Nat} {av : List ZV} {idx n : Nat} {X : String → ZMem → Option ZRes}
theorem AW.istoreL_n {i : Fin 4} {a : Int} {L' : Int → List (Nat × ZV)} {K : Int → Option ZRes} (hd : decode (zcc f) pc = .ok (.istore_n i, 1)) (hi : (i : Nat) < znL f) (hL : ∀ x, zSet1 L i (zI x) = L' x) (k : ∀ x, AW f n0 S1 S (pc + 1) (L' x) st μ kc ks (K x)) : AW f n0 S1 S pc L (zI a :: st) μ kc ks (zLet a K) := AW.istore_n hd hi (by rw [hL]; exact k a)
theorem AW.istoreL {i : Nat} {a : Int} {L' : Int → List (Nat × ZV)} {K : Int → Option ZRes} (hd : decode (zcc f) pc = .ok (.istore i, 2)) (hi : i < znL f) (hL : ∀ x, zSet1 L i (zI x) = L' x) (k : ∀ x, AW f n0 S1 S (pc + 2) (L' x) st μ kc ks (K x)) : AW f n0 S1 S pc L (zI a :: st) μ kc ks (zLet a K) := AW.istore hd hi (by rw [hL]; exact k a)
theorem AW.lstoreL_n {i : Fin 4} {a : Int} {L' : Int → List (Nat × ZV)} {K : Int → Option ZRes} (hd : decode (zcc f) pc = .ok (.lstore_n i, 1)) (hi : (i : Nat) + 1 < znL f) (hL : ∀ x, zSet2 L i (zJ x) = L' x) (k : ∀ x, AW f n0 S1 S (pc + 1) (L' x) st μ kc ks (K x)) : AW f n0 S1 S pc L (zJ a :: st) μ kc ks (zLet a K) := AW.lstore_n hd hi (by rw [hL]; exact k a)
theorem AW.lstoreL {i : Nat} {a : Int} {L' : Int → List (Nat × ZV)} {K : Int → Option ZRes} (hd : decode (zcc f) pc = .ok (.lstore i, 2)) (hi : i + 1 < znL f) (hL : ∀ x, zSet2 L i (zJ x) = L' x) (k : ∀ x, AW f n0 S1 S (pc + 2) (L' x) st μ kc ks (K x)) : AW f n0 S1 S pc L (zJ a :: st) μ kc ks (zLet a K) := AW.lstore hd hi (by rw [hL]; exact k a)
theorem AW.dstoreL_n {i : Fin 4} {a : UInt64} {L' : UInt64 → List (Nat × ZV)} {K : UInt64 → Option ZRes} (hd : decode (zcc f) pc = .ok (.dstore_n i, 1)) (hi : (i : Nat) + 1 < znL f) (hL : ∀ x, zSet2 L i (zD x) = L' x) (k : ∀ x, AW f n0 S1 S (pc + 1) (L' x) st μ kc ks (K x)) : AW f n0 S1 S pc L (zD a :: st) μ kc ks (zLet a K) := AW.dstore_n hd hi (by rw [hL]; exact k a)
theorem AW.dstoreL {i : Nat} {a : UInt64} {L' : UInt64 → List (Nat × ZV)} {K : UInt64 → Option ZRes} (hd : decode (zcc f) pc = .ok (.dstore i, 2)) (hi : i + 1 < znL f) (hL : ∀ x, zSet2 L i (zD x) = L' x) (k : ∀ x, AW f n0 S1 S (pc + 2) (L' x) st μ kc ks (K x)) : AW f n0 S1 S pc L (zD a :: st) μ kc ks (zLet a K) := AW.dstore hd hi (by rw [hL]; exact k a)
theorem AW.fstoreL {i : Nat} {a : UInt32} {L' : UInt32 → List (Nat × ZV)} {K : UInt32 → Option ZRes} (hd : decode (zcc f) pc = .ok (.fstore i, 2)) (hi : i < znL f) (hL : ∀ x, zSet1 L i (zF x) = L' x) (k : ∀ x, AW f n0 S1 S (pc + 2) (L' x) st μ kc ks (K x)) : AW f n0 S1 S pc L (zF a :: st) μ kc ks (zLet a K) := AW.fstore hd hi (by rw [hL]; exact k a)
theorem AW.iincL {i : Nat} {n a : Int} {L' : Int → List (Nat × ZV)} {K : Int → Option ZRes} (hd : decode (zcc f) pc = .ok (.iinc i n, 3)) (hg : zGet L i = some (zI a)) (hi : i < znL f) (hL : ∀ x, zSet1 L i (zI x) = L' x) (k : ∀ x, AW f n0 S1 S (pc + 3) (L' x) st μ kc ks (K x)) : AW f n0 S1 S pc L st μ kc ks (zLet (a + n) K) := AW.iinc hd hg hi (by rw [hL]; exact k (a + n))
theorem AW.putiL {idx ci k r : Nat} {a : Int} {x : Option Nat} {fl : List (Nat × Option Nat)} {K : ZMem → Option ZRes} (hd : decode (zcc f) pc = .ok (.putfield idx, 3)) (hm : zLook (zft f) idx = some (ci, k, 0)) (hS : S[r]? = some (.inl (ci, fl))) (hf : fl[k]? = some (0, x)) (kk : ∀ μ1, AW f n0 S1 S (pc + 3) L st μ1 kc ks (K μ1)) : AW f n0 S1 S pc L (zI a :: zR (some r) :: st) μ kc ks (zLet (zUp μ r k a) K) := AW.puti hd hm hS hf (kk _)
theorem AW.putlL {idx ci k r : Nat} {a : Int} {x : Option Nat} {fl : List (Nat × Option Nat)} {K : ZMem → Option ZRes} (hd : decode (zcc f) pc = .ok (.putfield idx, 3)) (hm : zLook (zft f) idx = some (ci, k, 1)) (hS : S[r]? = some (.inl (ci, fl))) (hf : fl[k]? = some (1, x)) (kk : ∀ μ1, AW f n0 S1 S (pc + 3) L st μ1 kc ks (K μ1)) : AW f n0 S1 S pc L (zJ a :: zR (some r) :: st) μ kc ks (zLet (zUp μ r k a) K) := AW.putl hd hm hS hf (kk _)
theorem AW.putb1L {idx ci k r : Nat} {a : Int} {x : Option Nat} {fl : List (Nat × Option Nat)} {K : ZMem → Option ZRes} (hd : decode (zcc f) pc = .ok (.putfield idx, 3)) (hm : zLook (zft f) idx = some (ci, k, 3)) (hS : S[r]? = some (.inl (ci, fl))) (hf : fl[k]? = some (3, x)) (ha : a = 0 ∨ a = 1) (kk : ∀ μ1, AW f n0 S1 S (pc + 3) L st μ1 kc ks (K μ1)) : AW f n0 S1 S pc L (zI a :: zR (some r) :: st) μ kc ks (zLet (zUp μ r k a) K) := AW.putb1 hd hm hS hf ha (kk _)
theorem AW.putbL {idx ci k r : Nat} {a : Int} {x : Option Nat} {fl : List (Nat × Option Nat)} {K : ZMem → Option ZRes} (hd : decode (zcc f) pc = .ok (.putfield idx, 3)) (hm : zLook (zft f) idx = some (ci, k, 3)) (hS : S[r]? = some (.inl (ci, fl))) (hf : fl[k]? = some (3, x)) (kk : ∀ μ1, AW f n0 S1 S (pc + 3) L st μ1 kc ks (K μ1)) : AW f n0 S1 S pc L (zI a :: zR (some r) :: st) μ kc ks (if a = 0 ∨ a = 1 then zLet (zUp μ r k a) K else none) := AW.putb hd hm hS hf (kk _)
theorem AW.iastL {r n : Nat} {i a : Int} {rs : List (Option Nat)} {K : ZMem → Option ZRes} (hd : decode (zcc f) pc = .ok (.iastore, 1)) (hS : S[r]? = some (.inr (0, n, rs))) (kk : ∀ μ1, AW f n0 S1 S (pc + 1) L st μ1 kc ks (K μ1)) : AW f n0 S1 S pc L (zI a :: zI i :: zR (some r) :: st) μ kc ks (zWr μ r n i a K) := AW.iast hd hS (kk _)
theorem AW.lastL {r n : Nat} {i a : Int} {rs : List (Option Nat)} {K : ZMem → Option ZRes} (hd : decode (zcc f) pc = .ok (.lastore, 1)) (hS : S[r]? = some (.inr (1, n, rs))) (kk : ∀ μ1, AW f n0 S1 S (pc + 1) L st μ1 kc ks (K μ1)) : AW f n0 S1 S pc L (zJ a :: zI i :: zR (some r) :: st) μ kc ks (zWr μ r n i a K) := AW.last hd hS (kk _)
/-- where an exception goes: nowhere, or on to the caller -/
def zXok (f : ZCf) (S1 S : List ZSh) (X : String → ZMem → Option ZRes) : Prop := X = zX0 ∨ (X = zXo ∧ S1 = S ∧ zhh f = [])
theorem AW.callVm {K : Option ZV → ZMem → Option ZRes} {b0 ci : Nat} {fl : List (Nat × Option Nat)} {T : u_T} {N : Nat} (hd : decode (zcc f) pc = .ok (.invokevirtual idx, 3)) (hg : ∀ l : Launch, l.stackTraces = false → ∀ r, x = some r → ZC l g Sg Sg (zR (some b0) :: av) (zVw pl μ) r)
    (hs : zSub S pl Sg) (hst : stk = (av.map (zRv pl)).reverse ++ zR (some (zRho pl b0)) :: st) (hcal : zCallee g n) (hn : av.length = n) (hw : ∀ w ∈ [Cond.methodLink (zy f).cls idx (zy g), .instanceMethod (zy g), .selects (zy g).cls (zy g) (zy g), .initialized (zy g).cls], w ∈ zAll)
    (hr : S[zRho pl b0]? = some (.inl (ci, fl))) (hc : vwCl[ci]? = some ((zy g).cls, T, N)) (hfit : zFit f g kc ks) (hrest : (st.map zcat).sum ≤ 8) (hX : zXok f S1 S X)
    (kr : ∀ v μ1, AW f n0 S1 S (pc + 3) L ((v.map (zRv pl)).toList ++ st) μ1 (kc + zmc g) (ks + zms g) (K v μ1)) : AW f n0 S1 S pc L stk μ kc ks (zCm pl μ x K X) :=
  AW.callV hd hg hs hst hcal hn hw hr hc hfit hrest (fun v ν => kr v _) (fun E ν => by
    rcases hX with rfl | ⟨rfl, h1, h2⟩
    · exact Or.inl rfl
    · exact Or.inr ⟨_, rfl, fun _ _ _ => rfl, h1, h2⟩)
theorem AW.callVw {K : Option ZV → ZMem → Option ZRes} {b0 ci : Nat} {fl : List (Nat × Option Nat)} {T : u_T} {N : Nat} (hd : decode (zcc f) pc = .ok (.invokevirtual idx, 3)) (hg : ∀ l : Launch, l.stackTraces = false → ∀ r, x = some r → ZC l g S S (zR (some b0) :: av) μ r)
    (hs : zWfS S.length S = true ∧ Nat.ble S.length 1000 = true) (hst : stk = av.reverse ++ zR (some b0) :: st) (hcal : zCallee g n) (hn : av.length = n) (hw : ∀ w ∈ [Cond.methodLink (zy f).cls idx (zy g), .instanceMethod (zy g), .selects (zy g).cls (zy g) (zy g), .initialized (zy g).cls], w ∈ zAll)
    (hr : S[b0]? = some (.inl (ci, fl))) (hc : vwCl[ci]? = some ((zy g).cls, T, N)) (hfit : zFit f g kc ks) (hrest : (st.map zcat).sum ≤ 8) (hX : zXok f S1 S X)
    (kr : ∀ v μ1, AW f n0 S1 S (pc + 3) L (v.toList ++ st) μ1 (kc + zmc g) (ks + zms g) (K v μ1)) : AW f n0 S1 S pc L stk μ kc ks (zC x K X) :=
  AW.callVs hd hg hs hst hcal hn hw hr hc hfit hrest kr (fun E ν => by
    rcases hX with rfl | ⟨rfl, h1, h2⟩
    · exact Or.inl rfl
    · exact Or.inr ⟨rfl, h1, h2⟩)
theorem AW.callSm {K : Option ZV → ZMem → Option ZRes} (hd : decode (zcc f) pc = .ok (.invokestatic idx, 3)) (hg : ∀ l : Launch, l.stackTraces = false → ∀ r, x = some r → ZC l g Sg Sg av (zVw pl μ) r)
    (hs : zSub S pl Sg) (hst : stk = (av.map (zRv pl)).reverse ++ st) (hcal : zCallee g n) (hn : av.length = n) (hw : ∀ w ∈ [Cond.methodLink (zy f).cls idx (zy g), .static (zy g), .initialized (zy g).cls], w ∈ zAll)
    (hfit : zFit f g kc ks) (hrest : (st.map zcat).sum ≤ 8) (hX : zXok f S1 S X)
    (kr : ∀ v μ1, AW f n0 S1 S (pc + 3) L ((v.map (zRv pl)).toList ++ st) μ1 (kc + zmc g) (ks + zms g) (K v μ1)) : AW f n0 S1 S pc L stk μ kc ks (zCm pl μ x K X) :=
  AW.callS hd hg hs hst hcal hn hw hfit hrest (fun v ν => kr v _) (fun E ν => by
    rcases hX with rfl | ⟨rfl, h1, h2⟩
    · exact Or.inl rfl
    · exact Or.inr ⟨_, rfl, fun _ _ _ => rfl, h1, h2⟩)
end ZN
theorem zw4 {a b c d : Cond} (ha : a ∈ zAll) (hb : b ∈ zAll) (hc : c ∈ zAll) (hd : d ∈ zAll) : ∀ w ∈ [a, b, c, d], w ∈ zAll := List.forall_mem_cons.mpr ⟨ha, List.forall_mem_cons.mpr ⟨hb, List.forall_mem_cons.mpr ⟨hc, List.forall_mem_cons.mpr ⟨hd, fun _ h => absurd h List.not_mem_nil⟩⟩⟩⟩
theorem zw3 {a b c : Cond} (ha : a ∈ zAll) (hb : b ∈ zAll) (hc : c ∈ zAll) : ∀ w ∈ [a, b, c], w ∈ zAll := List.forall_mem_cons.mpr ⟨ha, List.forall_mem_cons.mpr ⟨hb, List.forall_mem_cons.mpr ⟨hc, fun _ h => absurd h List.not_mem_nil⟩⟩⟩
