/-! ===== the rules of the walk: one instruction each ===== -/
section ZR
variable {f : ZCf} {n0 : Nat} {S1 S : List ZSh} {pc : Nat} {L : List (Nat × ZV)} {st : List ZV} {μ : ZMem} {kc ks : Nat} {o : Option ZRes}
/-- an instruction of the stack alone -/
theorem AW.pure {pc' : Nat} {st' : List ZV} (h : ∀ (p : Program) (l : Launch) (e : Env) (R : Room) (s : State) (m : MethodId) (args : Array Value) (below : List Frame) (meth : Method) (c : Code) (Q : State → Prop) (ad : Nat → Nat) (H : Heap) (locs : List Loc) (ls : Array Slot), p.tables.exec = Jvm.exec → c.code = zcc f → lv_has ls (znL f) (L.map fun q => (q.1, zTr ad q.2)) →
      W p l e R s m args below meth c H locs kc ks Q (F0 m pc' ls (st'.map (zTr ad))) → W p l e R s m args below meth c H locs kc ks Q (F0 m pc ls (st.map (zTr ad))))
    (k : AW f n0 S1 S pc' L st' μ kc ks o) : AW f n0 S1 S pc L st μ kc ks o := by
  intro p l e R s m args below meth c D G ad0 adV A Q C r hr hE ad H locs ls hg hP hD hS hl
  exact h p l e R s m args below meth c Q ad H locs ls C.1 C.2.1 hl (k p l e R s m args below meth c D G ad0 adV A Q C r hr hE ad H locs ls hg hP hD hS hl)
/-- a store into a local -/
theorem AW.store {pc' : Nat} {L' : List (Nat × ZV)} {st' : List ZV} (h : ∀ (p : Program) (l : Launch) (e : Env) (R : Room) (s : State) (m : MethodId) (args : Array Value) (below : List Frame) (meth : Method) (c : Code) (Q : State → Prop) (ad : Nat → Nat) (H : Heap) (locs : List Loc) (ls : Array Slot), p.tables.exec = Jvm.exec → c.code = zcc f → lv_has ls (znL f) (L.map fun q => (q.1, zTr ad q.2)) →
      (∀ ls' : Array Slot, lv_has ls' (znL f) (L'.map fun q => (q.1, zTr ad q.2)) → W p l e R s m args below meth c H locs kc ks Q (F0 m pc' ls' (st'.map (zTr ad)))) → W p l e R s m args below meth c H locs kc ks Q (F0 m pc ls (st.map (zTr ad))))
    (k : AW f n0 S1 S pc' L' st' μ kc ks o) : AW f n0 S1 S pc L st μ kc ks o := by
  intro p l e R s m args below meth c D G ad0 adV A Q C r hr hE ad H locs ls hg hP hD hS hl
  exact h p l e R s m args below meth c Q ad H locs ls C.1 C.2.1 hl (fun ls' hl' => k p l e R s m args below meth c D G ad0 adV A Q C r hr hE ad H locs ls' hg hP hD hS hl')
theorem AW.iconst {n : Int} (hd : decode (zcc f) pc = .ok (.iconst n, 1)) (k : AW f n0 S1 S (pc + 1) L (zI n :: st) μ kc ks o) : AW f n0 S1 S pc L st μ kc ks o :=
  AW.pure (fun _ _ _ _ _ _ _ _ _ _ _ _ _ _ _ hx hb _ w => lv_iconst hx hb hd rfl w) k
theorem AW.bipush {n : Int} (hd : decode (zcc f) pc = .ok (.bipush n, 2)) (hn : (Int8.ofInt n).toInt32 = Int32.ofInt n) (k : AW f n0 S1 S (pc + 2) L (zI n :: st) μ kc ks o) : AW f n0 S1 S pc L st μ kc ks o :=
  AW.pure (fun _ _ _ _ _ _ _ _ _ _ _ _ _ _ _ hx hb _ w => lv_bipush hx hb hd hn w) k
theorem AW.sipush {n : Int} (hd : decode (zcc f) pc = .ok (.sipush n, 3)) (hn : (Int16.ofInt n).toInt32 = Int32.ofInt n) (k : AW f n0 S1 S (pc + 3) L (zI n :: st) μ kc ks o) : AW f n0 S1 S pc L st μ kc ks o :=
  AW.pure (fun _ _ _ _ _ _ _ _ _ _ _ _ _ _ _ hx hb _ w => lv_sipush hx hb hd hn w) k
theorem AW.lconst0 (hd : decode (zcc f) pc = .ok (.lconst 0, 1)) (k : AW f n0 S1 S (pc + 1) L (zJ 0 :: st) μ kc ks o) : AW f n0 S1 S pc L st μ kc ks o :=
  AW.pure (fun _ _ _ _ _ _ _ _ _ _ _ _ _ _ _ hx hb _ w => lv_lconst hx hb hd rfl w) k
theorem AW.lconst1 (hd : decode (zcc f) pc = .ok (.lconst 1, 1)) (k : AW f n0 S1 S (pc + 1) L (zJ 1 :: st) μ kc ks o) : AW f n0 S1 S pc L st μ kc ks o :=
  AW.pure (fun _ _ _ _ _ _ _ _ _ _ _ _ _ _ _ hx hb _ w => lv_lconst hx hb hd rfl w) k
theorem AW.iload_n {i : Fin 4} {a : Int} (hd : decode (zcc f) pc = .ok (.iload_n i, 1)) (hg : zGet L i = some (zI a)) (k : AW f n0 S1 S (pc + 1) L (zI a :: st) μ kc ks o) : AW f n0 S1 S pc L st μ kc ks o :=
  AW.pure (fun _ _ _ _ _ _ _ _ _ _ _ _ _ _ _ hx hb hl w => lv_iload_n hx hb hd rfl (zGet_at hl hg) w) k
theorem AW.iload {i : Nat} {a : Int} (hd : decode (zcc f) pc = .ok (.iload i, 2)) (hg : zGet L i = some (zI a)) (k : AW f n0 S1 S (pc + 2) L (zI a :: st) μ kc ks o) : AW f n0 S1 S pc L st μ kc ks o :=
  AW.pure (fun _ _ _ _ _ _ _ _ _ _ _ _ _ _ _ hx hb hl w => lv_iload hx hb hd (zGet_at hl hg) w) k
theorem AW.lload_n {i : Fin 4} {a : Int} (hd : decode (zcc f) pc = .ok (.lload_n i, 1)) (hg : zGet L i = some (zJ a)) (k : AW f n0 S1 S (pc + 1) L (zJ a :: st) μ kc ks o) : AW f n0 S1 S pc L st μ kc ks o :=
  AW.pure (fun _ _ _ _ _ _ _ _ _ _ _ _ _ _ _ hx hb hl w => lv_lload_n hx hb hd rfl (zGet_at hl hg) w) k
theorem AW.lload {i : Nat} {a : Int} (hd : decode (zcc f) pc = .ok (.lload i, 2)) (hg : zGet L i = some (zJ a)) (k : AW f n0 S1 S (pc + 2) L (zJ a :: st) μ kc ks o) : AW f n0 S1 S pc L st μ kc ks o :=
  AW.pure (fun _ _ _ _ _ _ _ _ _ _ _ _ _ _ _ hx hb hl w => lv_lload hx hb hd (zGet_at hl hg) w) k
theorem AW.aload_n {i : Fin 4} {a : Nat} (hd : decode (zcc f) pc = .ok (.aload_n i, 1)) (hg : zGet L i = some (zR (some a))) (k : AW f n0 S1 S (pc + 1) L (zR (some a) :: st) μ kc ks o) : AW f n0 S1 S pc L st μ kc ks o :=
  AW.pure (fun _ _ _ _ _ _ _ _ _ _ _ _ _ _ _ hx hb hl w => lv_aload_n hx hb hd rfl (zGet_at hl hg) w) k
theorem AW.aload {i : Nat} {a : Nat} (hd : decode (zcc f) pc = .ok (.aload i, 2)) (hg : zGet L i = some (zR (some a))) (k : AW f n0 S1 S (pc + 2) L (zR (some a) :: st) μ kc ks o) : AW f n0 S1 S pc L st μ kc ks o :=
  AW.pure (fun _ _ _ _ _ _ _ _ _ _ _ _ _ _ _ hx hb hl w => lv_aload hx hb hd (zGet_at hl hg) w) k
theorem AW.dload_n {i : Fin 4} {a : UInt64} (hd : decode (zcc f) pc = .ok (.dload_n i, 1)) (hg : zGet L i = some (zD a)) (k : AW f n0 S1 S (pc + 1) L (zD a :: st) μ kc ks o) : AW f n0 S1 S pc L st μ kc ks o :=
  AW.pure (fun _ _ _ _ _ _ _ _ _ _ _ _ _ _ _ hx hb hl w => lv_dload_n hx hb hd rfl (zGet_at hl hg) w) k
theorem AW.dload {i : Nat} {a : UInt64} (hd : decode (zcc f) pc = .ok (.dload i, 2)) (hg : zGet L i = some (zD a)) (k : AW f n0 S1 S (pc + 2) L (zD a :: st) μ kc ks o) : AW f n0 S1 S pc L st μ kc ks o :=
  AW.pure (fun _ _ _ _ _ _ _ _ _ _ _ _ _ _ _ hx hb hl w => lv_dload hx hb hd (zGet_at hl hg) w) k
theorem AW.fload {i : Nat} {a : UInt32} (hd : decode (zcc f) pc = .ok (.fload i, 2)) (hg : zGet L i = some (zF a)) (k : AW f n0 S1 S (pc + 2) L (zF a :: st) μ kc ks o) : AW f n0 S1 S pc L st μ kc ks o :=
  AW.pure (fun _ _ _ _ _ _ _ _ _ _ _ _ _ _ _ hx hb hl w => lv_fload hx hb hd (zGet_at hl hg) w) k
theorem AW.istore_n {i : Fin 4} {a : Int} (hd : decode (zcc f) pc = .ok (.istore_n i, 1)) (hi : (i : Nat) < znL f) (k : AW f n0 S1 S (pc + 1) (zSet1 L i (zI a)) st μ kc ks o) : AW f n0 S1 S pc L (zI a :: st) μ kc ks o :=
  AW.store (fun _ _ _ _ _ _ _ _ _ _ _ ad _ _ _ hx hb hl w => lv_istore_n hx hb hd rfl hl hi (zSet1_map ad L i (zI a)).symm w) k
theorem AW.istore {i : Nat} {a : Int} (hd : decode (zcc f) pc = .ok (.istore i, 2)) (hi : i < znL f) (k : AW f n0 S1 S (pc + 2) (zSet1 L i (zI a)) st μ kc ks o) : AW f n0 S1 S pc L (zI a :: st) μ kc ks o :=
  AW.store (fun _ _ _ _ _ _ _ _ _ _ _ ad _ _ _ hx hb hl w => lv_istore hx hb hd hl hi (zSet1_map ad L i (zI a)).symm w) k
theorem AW.lstore_n {i : Fin 4} {a : Int} (hd : decode (zcc f) pc = .ok (.lstore_n i, 1)) (hi : (i : Nat) + 1 < znL f) (k : AW f n0 S1 S (pc + 1) (zSet2 L i (zJ a)) st μ kc ks o) : AW f n0 S1 S pc L (zJ a :: st) μ kc ks o :=
  AW.store (fun _ _ _ _ _ _ _ _ _ _ _ ad _ _ _ hx hb hl w => lv_lstore_n hx hb hd rfl hl hi (zSet2_map ad L i (zJ a)).symm w) k
theorem AW.lstore {i : Nat} {a : Int} (hd : decode (zcc f) pc = .ok (.lstore i, 2)) (hi : i + 1 < znL f) (k : AW f n0 S1 S (pc + 2) (zSet2 L i (zJ a)) st μ kc ks o) : AW f n0 S1 S pc L (zJ a :: st) μ kc ks o :=
  AW.store (fun _ _ _ _ _ _ _ _ _ _ _ ad _ _ _ hx hb hl w => lv_lstore hx hb hd hl hi (zSet2_map ad L i (zJ a)).symm w) k
theorem AW.astore_n {i : Fin 4} {a : Nat} (hd : decode (zcc f) pc = .ok (.astore_n i, 1)) (hi : (i : Nat) < znL f) (k : AW f n0 S1 S (pc + 1) (zSet1 L i (zR (some a))) st μ kc ks o) : AW f n0 S1 S pc L (zR (some a) :: st) μ kc ks o :=
  AW.store (fun _ _ _ _ _ _ _ _ _ _ _ ad _ _ _ hx hb hl w => lv_astore_n hx hb hd rfl hl hi (zSet1_map ad L i (zR (some a))).symm w) k
theorem AW.astore {i : Nat} {a : Nat} (hd : decode (zcc f) pc = .ok (.astore i, 2)) (hi : i < znL f) (k : AW f n0 S1 S (pc + 2) (zSet1 L i (zR (some a))) st μ kc ks o) : AW f n0 S1 S pc L (zR (some a) :: st) μ kc ks o :=
  AW.store (fun _ _ _ _ _ _ _ _ _ _ _ ad _ _ _ hx hb hl w => lv_astore hx hb hd hl hi (zSet1_map ad L i (zR (some a))).symm w) k
theorem AW.dstore_n {i : Fin 4} {a : UInt64} (hd : decode (zcc f) pc = .ok (.dstore_n i, 1)) (hi : (i : Nat) + 1 < znL f) (k : AW f n0 S1 S (pc + 1) (zSet2 L i (zD a)) st μ kc ks o) : AW f n0 S1 S pc L (zD a :: st) μ kc ks o :=
  AW.store (fun _ _ _ _ _ _ _ _ _ _ _ ad _ _ _ hx hb hl w => lv_dstore_n hx hb hd rfl hl hi (zSet2_map ad L i (zD a)).symm w) k
theorem AW.dstore {i : Nat} {a : UInt64} (hd : decode (zcc f) pc = .ok (.dstore i, 2)) (hi : i + 1 < znL f) (k : AW f n0 S1 S (pc + 2) (zSet2 L i (zD a)) st μ kc ks o) : AW f n0 S1 S pc L (zD a :: st) μ kc ks o :=
  AW.store (fun _ _ _ _ _ _ _ _ _ _ _ ad _ _ _ hx hb hl w => lv_dstore hx hb hd hl hi (zSet2_map ad L i (zD a)).symm w) k
theorem AW.fstore {i : Nat} {a : UInt32} (hd : decode (zcc f) pc = .ok (.fstore i, 2)) (hi : i < znL f) (k : AW f n0 S1 S (pc + 2) (zSet1 L i (zF a)) st μ kc ks o) : AW f n0 S1 S pc L (zF a :: st) μ kc ks o :=
  AW.store (fun _ _ _ _ _ _ _ _ _ _ _ ad _ _ _ hx hb hl w => lv_fstore hx hb hd hl hi (zSet1_map ad L i (zF a)).symm w) k
theorem AW.iinc {i : Nat} {n a : Int} (hd : decode (zcc f) pc = .ok (.iinc i n, 3)) (hg : zGet L i = some (zI a)) (hi : i < znL f) (k : AW f n0 S1 S (pc + 3) (zSet1 L i (zI (a + n))) st μ kc ks o) : AW f n0 S1 S pc L st μ kc ks o :=
  AW.store (fun _ _ _ _ _ _ _ _ _ _ _ ad _ _ _ hx hb hl w => by
    obtain ⟨j, hj⟩ := List.getElem?_of_mem (List.mem_map.mpr ⟨(i, zI a), zGet_mem hg, rfl⟩ : ((fun q : Nat × ZV => (q.1, zTr ad q.2)) (i, zI a)) ∈ L.map (fun q => (q.1, zTr ad q.2)))
    exact lv_iinc (v := Int32.ofInt (a + n)) hx hb hd hl hj (Int32.ofInt_add a n).symm hi (zSet1_map ad L i (zI (a + n))).symm w) k
end ZR
