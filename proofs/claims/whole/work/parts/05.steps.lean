/-! ===== one instruction of the abstract machine, and the walk's goal ===== -/
def zRetOk (rt : Option FieldType) (v : Option ZV) (i : Instr) : Prop := match v with
  | none => i = .return_ ∧ rt = none
  | some (.inl a) => i = .ireturn ∧ ∃ ty, rt = some ty ∧ narrow ty (.int (Int32.ofInt a)) = .int (Int32.ofInt a)
  | some (.inr (.inl _)) => i = .lreturn ∧ rt = some .long
  | some (.inr (.inr (.inl _))) => i = .freturn ∧ rt = some .float
  | some (.inr (.inr (.inr (.inl _)))) => i = .dreturn ∧ rt = some .double
  | some (.inr (.inr (.inr (.inr _)))) => i = .areturn ∧ ∃ ty, rt = some ty ∧ ((∃ n, ty = .object n) ∨ ∃ t, ty = .array t)
/-- 'throw new E()' at pc -/
def zThr (f : ZCf) (pc ik ic : Nat) (names : List String) (E : String) : Prop :=
  Bundle.fit E = true ∧ (∀ n ∈ names, Bundle.fit n = true) ∧ Cond.classLink (zy f).cls ik E ∈ zAll ∧ Cond.initialized E ∈ zAll ∧ (∀ w ∈ vx_at0 (zy f).cls ic E names, w ∈ zAll ∨ w ∈ zOther) ∧ (∀ w ∈ Cond.classLink (zy f).cls ik E :: Cond.initialized E :: vx_at0 (zy f).cls ic E names, vx_ot w = true) ∧
  decode (zcc f) pc = .ok (.new ik, 3) ∧ decode (zcc f) (pc + 3) = .ok (.dup, 1) ∧ decode (zcc f) (pc + 4) = .ok (.invokespecial ic, 3) ∧ decode (zcc f) (pc + 7) = .ok (.athrow, 1) ∧ zhh f = [] ∧ names.length + 3 < zdp f
def zEnd (f : ZCf) (n0 : Nat) (S1 : List ZSh) (p : Program) (l : Launch) (e : Env) (R : Room) (s : State) (m : MethodId) (args : Array Value) (below : List Frame) (meth : Method) (c : Code) (D : va_G) (G : ZG) (ad0 : Nat → Nat) (A : Nat → Prop) (Q : State → Prop) (r : ZRes) : Prop :=
  (∀ v, r.1 = .inr v → ∀ (H : Heap) (locs : List Loc) (kc ks : Nat) (ls : Array Slot) (pc : Nat) (i : Instr), va_S A s.heap H locs → zPost D G ad0 n0 A S1 r.2 H → kc ≤ zmc f → ks ≤ zms f → decode (zcc f) pc = .ok (i, 1) → zRetOk (zrt f) v i →
    W p l e R s m args below meth c H locs kc ks Q (F0 m pc ls (v.toList.map (zTr ad0)))) ∧
  ∀ E, r.1 = .inl E →
    (∀ (H : Heap) (locs : List Loc) (kc ks : Nat) (ls : Array Slot) (st : List Value) (pc : Nat) (q : Addr) (ce : Cell), va_S A s.heap H locs → zPost D G ad0 n0 A S1 r.2 H → kc ≤ zmc f → ks ≤ zms f → (∀ x ∈ c.exceptionTable.toList, covers x pc = false) → H[q]? = some ce → ce.vm = .none → s.vm.findClass E = some ce.cls → vx_W p l e R s m args below meth c H locs kc ks Q (F0 m pc ls st) q) ∧
    (∀ (H : Heap) (locs : List Loc) (kc ks : Nat) (ls : Array Slot) (st : List Value) (pc ik ic : Nat) (names : List String), va_S A s.heap H locs → zPost D G ad0 n0 A S1 r.2 H → kc + 1 ≤ zmc f → ks + 6 ≤ zms f → ls.size = znL f → (st.map fun v => v.category).sum ≤ 8 → zThr f pc ik ic names E → W p l e R s m args below meth c H locs kc ks Q (F0 m pc ls st))
/-- the walk's goal: at pc, with these locals, this stack, these numbers in the memory; o: what the rest comes to -/
def AW (f : ZCf) (n0 : Nat) (S1 S : List ZSh) (pc : Nat) (L : List (Nat × ZV)) (st : List ZV) (μ : ZMem) (kc ks : Nat) (o : Option ZRes) : Prop :=
  ∀ (p : Program) (l : Launch) (e : Env) (R : Room) (s : State) (m : MethodId) (args : Array Value) (below : List Frame) (meth : Method) (c : Code) (D : va_G) (G : ZG) (ad0 adV : Nat → Nat) (A : Nat → Prop) (Q : State → Prop),
    zCx f p l R s m args meth c D G ad0 adV A → ∀ r : ZRes, o = some r → zEnd f n0 S1 p l e R s m args below meth c D G ad0 A Q r →
    ∀ (ad : Nat → Nat) (H : Heap) (locs : List Loc) (ls : Array Slot), zAgr n0 ad0 ad → va_P D vwCl (zConc G ad S μ) H → va_D A (zConc G ad S μ) → va_S A s.heap H locs → lv_has ls (znL f) (L.map fun q => (q.1, zTr ad q.2)) →
    W p l e R s m args below meth c H locs kc ks Q (F0 m pc ls (st.map (zTr ad)))
def zcat : ZV → Nat
  | .inr (.inl _) => 2
  | .inr (.inr (.inr (.inl _))) => 2
  | _ => 1
theorem zcat_ok (ad : Nat → Nat) (v : ZV) : (zTr ad v).category = zcat v := by
  rcases v with a | a | a | a | r
  · rfl
  · rfl
  · rfl
  · rfl
  · cases r <;> rfl
theorem zbeq (a b : Nat) : Nat.beq a b = (a == b) := by
  rw [Bool.eq_iff_iff, beq_iff_eq]
  exact ⟨Nat.eq_of_beq_eq_true, fun h => by rw [h]; exact Nat.beq_refl b⟩
def zGet : List (Nat × ZV) → Nat → Option ZV
  | [], _ => none
  | q :: L, i => cond (Nat.beq q.1 i) (some q.2) (zGet L i)
def zSet1 (L : List (Nat × ZV)) (i : Nat) (v : ZV) : List (Nat × ZV) := (i, v) :: L.filter (fun q => !(Nat.beq q.1 i) && !(Nat.beq (q.1 + 1) i && Nat.beq (zcat q.2) 2))
def zSet2 (L : List (Nat × ZV)) (i : Nat) (v : ZV) : List (Nat × ZV) := (i, v) :: L.filter (fun q => !(Nat.beq q.1 i) && (!(Nat.beq q.1 (i + 1)) && !(Nat.beq (q.1 + 1) i && Nat.beq (zcat q.2) 2)))
theorem zGet_mem {L : List (Nat × ZV)} {i : Nat} {v : ZV} (h : zGet L i = some v) : (i, v) ∈ L := by
  induction L with
  | nil => cases h
  | cons q L ih =>
    unfold zGet at h
    cases hb : Nat.beq q.1 i with
    | true =>
      rw [hb] at h
      have e := Nat.eq_of_beq_eq_true hb
      simp only [cond_true, Option.some.injEq] at h
      subst e; subst h
      exact List.mem_cons_self
    | false =>
      rw [hb] at h
      exact List.mem_cons_of_mem _ (ih h)
theorem zGet_at {L : List (Nat × ZV)} {i : Nat} {v : ZV} {ls : Array Slot} {n : Nat} {ad : Nat → Nat} (hl : lv_has ls n (L.map fun q => (q.1, zTr ad q.2))) (h : zGet L i = some v) : ls[i]? = some (.val (zTr ad v)) :=
  hl.2.2 (i, zTr ad v) (List.mem_map.mpr ⟨(i, v), zGet_mem h, rfl⟩)
theorem zSet1_map (ad : Nat → Nat) (L : List (Nat × ZV)) (i : Nat) (v : ZV) : (zSet1 L i v).map (fun q => (q.1, zTr ad q.2)) = (i, zTr ad v) :: (L.map fun q => (q.1, zTr ad q.2)).filter (fun q => !(q.1 == i) && !(q.1 + 1 == i && q.2.category == 2)) := by
  unfold zSet1
  rw [List.map_cons, List.filter_map]
  congr 2
  apply List.filter_congr
  intro q _
  simp only [Function.comp, zcat_ok, zbeq]
theorem zSet2_map (ad : Nat → Nat) (L : List (Nat × ZV)) (i : Nat) (v : ZV) : (zSet2 L i v).map (fun q => (q.1, zTr ad q.2)) = (i, zTr ad v) :: (L.map fun q => (q.1, zTr ad q.2)).filter (fun q => !(q.1 == i) && (!(q.1 == i + 1) && !(q.1 + 1 == i && q.2.category == 2))) := by
  unfold zSet2
  rw [List.map_cons, List.filter_map]
  congr 2
  apply List.filter_congr
  intro q _
  simp only [Function.comp, zcat_ok, zbeq]
