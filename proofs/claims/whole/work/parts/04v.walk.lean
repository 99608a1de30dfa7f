/-! ===== the walk over the abstract machine ===== -/
abbrev zSB : Nat := 1000000
abbrev zTT : Nat := 2000000
abbrev zVB : Nat := 1500000
abbrev zSF : Nat := 2000001
abbrev zSC : Nat := 2000002
def zStrs : List String := ["hurdle", "catch", "carry", "dealwise", "tax", "held", "fee", "fund", "investor", "deals", "excuse", "call", "sell", "mark", "wait", "fail", "move", "end", "last"]
def zSlen : List Nat := zStrs.map (fun t => t.length)
def zSbyt : List (List Int32) := zStrs.map (fun t => t.toList.map (fun ch => Int32.ofNat ch.toNat))
def zTops : List Int := [999, 100, 50, 1, 99, 100, 200]
/-- words that are not good ones, but hold on -/
def zWarm : Cond → Bool
  | .declares _ => true
  | .castable _ _ => true
  | .methodLinkNest .. => true
  | .fieldLinkNest .. => true
  | _ => false
theorem zWarm.tab {w : Cond} (h : zWarm w = true) : w.onTables = true := by
  cases w <;> first | rfl | cases h
theorem zWarm.warm {w : Cond} (h : zWarm w = true) {s U : State} (hW : s.WarmedH U.vm) (hZ : va_Nw w s) : va_Nw w U := by
  cases w with
  | declares x => exact hZ.warmD hW
  | castable a b => exact hZ.warmC hW
  | methodLinkNest a i x h => exact hZ.warmM hW
  | fieldLinkNest a i b n d h => exact hZ.warmF hW
  | _ => cases h
def zOther : List Cond := lw_tbl.filter zWarm
theorem zOther.ok {w : Cond} (h : w ∈ zOther) : zWarm w = true := (List.mem_filter.mp h).2
def zExs : List String := ["java/lang/IllegalArgumentException", "java/util/NoSuchElementException", "java/lang/IndexOutOfBoundsException", "java/lang/IllegalStateException", "java/lang/UnsupportedOperationException"]
/-- exceptions that are no others' kinds -/
def zNcs : List (String × String) := zExs.flatMap (fun a => (zExs.filter (fun b => b != a)).map (fun b => (a, b)))
def zEX (tab : List (String × Nat × String × Nat)) (ad adV : Nat → Nat) (A : Nat → Prop) (U : State) (H : Heap) : Prop :=
  vk_S 19 zSlen zSbyt (fun i => ad (zSB + i)) (fun i => ad (zVB + i)) A U H ∧ (∀ q ∈ tab, vk_R q.1 q.2.1 q.2.2.1 (ad (zSB + q.2.2.2)) U) ∧ va_Z "WeirLedger" "TERM_TOPS" "[I" (.ref (ad zTT)) A U H ∧
  va_T .int (ad zTT) 7 (fun j => .int (Int32.ofInt (zTops.getD j 0))) A U H ∧ va_Z "java/lang/String" "COMPACT_STRINGS" "Z" (.int 1) A U H ∧
  vx_Zq Bundle.tN "UNASSIGNED_STACK" Bundle.steD A U H ∧ vx_Zq Bundle.tN "SUPPRESSED_SENTINEL" Bundle.listD A U H ∧ (∀ w ∈ zOther, va_Nw w U) ∧ (∀ q ∈ zNcs, va_Nc q.1 q.2 U) ∧
  (va_Z "jdk/internal/util/Preconditions" "SIOOBE_FORMATTER" "Ljava/util/function/BiFunction;" .null A U H ∨ va_Z "jdk/internal/util/Preconditions" "SIOOBE_FORMATTER" "Ljava/util/function/BiFunction;" (.ref (ad zSF)) A U H) ∧ va_AO "WeirLedger$Books" U ∧ va_AO "java/lang/String" U
theorem zEX.warm {tab : List (String × Nat × String × Nat)} {ad adV : Nat → Nat} {A : Nat → Prop} {s U : State} {H : Heap} (hW : s.WarmedH U.vm) (h : zEX tab ad adV A s H) : zEX tab ad adV A U H :=
  ⟨h.1.moved hW.alike, fun q hq => (h.2.1 q hq).warm hW, h.2.2.1.moved hW.alike, h.2.2.2.1.moved hW.alike, h.2.2.2.2.1.moved hW.alike, h.2.2.2.2.2.1.moved hW.alike, h.2.2.2.2.2.2.1.moved hW.alike, fun w hw => zWarm.warm (zOther.ok hw) hW (h.2.2.2.2.2.2.2.1 w hw), fun q hq => (h.2.2.2.2.2.2.2.2.1 q hq).moved hW.alike, h.2.2.2.2.2.2.2.2.2.1.imp (fun z => z.moved hW.alike) (fun z => z.moved hW.alike), h.2.2.2.2.2.2.2.2.2.2.1.moved hW.alike, h.2.2.2.2.2.2.2.2.2.2.2.moved hW.alike⟩
theorem zEX.same {tab : List (String × Nat × String × Nat)} {ad adV : Nat → Nat} {A : Nat → Prop} {s U : State} {H : Heap} (hv : U.vm = s.vm) (h : zEX tab ad adV A s H) : zEX tab ad adV A U H := by
  have ha : s.vm.Alike U.vm := by rw [hv]; exact Vm.Alike.refl _
  exact ⟨h.1.moved ha, fun q hq => (h.2.1 q hq).same hv, h.2.2.1.moved ha, h.2.2.2.1.moved ha, h.2.2.2.2.1.moved ha, h.2.2.2.2.2.1.moved ha, h.2.2.2.2.2.2.1.moved ha, fun w hw => (h.2.2.2.2.2.2.2.1 w hw).same (zWarm.tab (zOther.ok hw)) hv.symm, fun q hq => (h.2.2.2.2.2.2.2.2.1 q hq).moved ha, h.2.2.2.2.2.2.2.2.2.1.imp (fun z => z.moved ha) (fun z => z.moved ha), h.2.2.2.2.2.2.2.2.2.2.1.moved ha, h.2.2.2.2.2.2.2.2.2.2.2.moved ha⟩
theorem zEX.kept {tab : List (String × Nat × String × Nat)} {ad adV : Nat → Nat} {A : Nat → Prop} {U : State} {H H1 : Heap} (h : zEX tab ad adV A U H) (hq : ∀ a : Nat, a < H.size → ¬ A a → H1[a]? = H[a]?) : zEX tab ad adV A U H1 :=
  ⟨h.1.kept hq, h.2.1, h.2.2.1.kept hq, h.2.2.2.1.kept hq, h.2.2.2.2.1.kept hq, h.2.2.2.2.2.1.kept hq, h.2.2.2.2.2.2.1.kept hq, h.2.2.2.2.2.2.2.1, h.2.2.2.2.2.2.2.2.1, h.2.2.2.2.2.2.2.2.2.1.imp (fun z => z.kept hq) (fun z => z.kept hq), h.2.2.2.2.2.2.2.2.2.2⟩
theorem zEX.narrow {tab : List (String × Nat × String × Nat)} {ad adV : Nat → Nat} {A B : Nat → Prop} {U : State} {H : Heap} (h : zEX tab ad adV A U H) (hAB : ∀ q, B q → A q) : zEX tab ad adV B U H :=
  ⟨h.1.narrow hAB, h.2.1, h.2.2.1.narrow hAB, h.2.2.2.1.narrow hAB, h.2.2.2.2.1.narrow hAB, h.2.2.2.2.2.1.narrow hAB, h.2.2.2.2.2.2.1.narrow hAB, h.2.2.2.2.2.2.2.1, h.2.2.2.2.2.2.2.2.1, h.2.2.2.2.2.2.2.2.2.1.imp (fun z => z.narrow hAB) (fun z => z.narrow hAB), h.2.2.2.2.2.2.2.2.2.2⟩
theorem zEX.ad {tab : List (String × Nat × String × Nat)} {ad ad' adV : Nat → Nat} {A : Nat → Prop} {U : State} {H : Heap} (h : zEX tab ad adV A U H) (he : ∀ k, zSB ≤ k → ad' k = ad k) : zEX tab ad' adV A U H := by
  have e1 : (fun i => ad' (zSB + i)) = (fun i => ad (zSB + i)) := funext fun i => he _ (Nat.le_add_right _ _)
  have e2 : ad' zTT = ad zTT := he _ (by decide)
  have e3 : (fun i => ad' (zVB + i)) = (fun i => ad (zVB + i)) := funext fun i => he _ (by have : zVB = 1500000 := rfl; have : zSB = 1000000 := rfl; omega)
  have e4 : ad' zSF = ad zSF := he _ (by decide)
  unfold zEX
  rw [e1, e2, e3, e4]
  refine ⟨h.1, fun q hq => ?_, h.2.2⟩
  rw [he _ (Nat.le_add_right _ _)]
  exact h.2.1 q hq
/-- a method: name, bytes, locals, answer, handlers, depth, cells, slots, its class's table of fields (pool number, class, slot, kind), the script that it reads -/
abbrev ZCf : Type := MethodName × ByteArray × Nat × Option FieldType × List (Nat × Nat × Nat × Nat) × Nat × Nat × Nat × List (Nat × Nat × Nat × Nat) × Option (Nat × (Nat → Int32))
abbrev zy (f : ZCf) : MethodName := f.1
abbrev zcc (f : ZCf) : ByteArray := f.2.1
abbrev znL (f : ZCf) : Nat := f.2.2.1
abbrev zrt (f : ZCf) : Option FieldType := f.2.2.2.1
abbrev zhh (f : ZCf) : List (Nat × Nat × Nat × Nat) := f.2.2.2.2.1
abbrev zdp (f : ZCf) : Nat := f.2.2.2.2.2.1
abbrev zmc (f : ZCf) : Nat := f.2.2.2.2.2.2.1
abbrev zms (f : ZCf) : Nat := f.2.2.2.2.2.2.2.1
abbrev zft (f : ZCf) : List (Nat × Nat × Nat × Nat) := f.2.2.2.2.2.2.2.2.1
abbrev zsc (f : ZCf) : Option (Nat × (Nat → Int32)) := f.2.2.2.2.2.2.2.2.2
def zRoom (f : ZCf) : Room := { frames := zdp f, cells := zmc f, slots := zms f, locals := 64 * zdp f }
def zWd (f : ZCf) : Cond := match zhh f with
  | [] => .code (zy f) (zcc f) (znL f) (zrt f)
  | _ => .codeWith (zy f) (zcc f) (znL f) (zrt f) (zhh f)
def zWs (f : ZCf) : List Cond := zWd f :: zAll
abbrev ZOut : Type := String ⊕ Option ZV
abbrev ZRes : Type := ZOut × ZMem
def zAgr (n : Nat) (ad0 ad : Nat → Nat) : Prop := ∀ k, k < n ∨ zSB ≤ k → ad k = ad0 k
/-- the world behind a method: the cells that were there, where they were -/
def zPost (D : va_G) (G : ZG) (ad0 : Nat → Nat) (n0 : Nat) (A : Nat → Prop) (S1 : List ZSh) (μ : ZMem) (H : Heap) : Prop :=
  ∃ ad, zAgr n0 ad0 ad ∧ va_P D vwCl (zConc G ad S1 μ) H ∧ va_D A (zConc G ad S1 μ)

/-- what does not change in a walk -/
def zCx (f : ZCf) (p : Program) (l : Launch) (R : Room) (s : State) (m : MethodId) (args : Array Value) (meth : Method) (c : Code) (D : va_G) (G : ZG) (ad0 adV : Nat → Nat) (A : Nat → Prop) : Prop :=
  p.tables.exec = Jvm.exec ∧ c.code = zcc f ∧ meth.sig.returnType = zrt f ∧ c.maxLocals = znL f ∧ s.vm.findClass (zy f).cls = some m.cls ∧ (∀ w ∈ zAll, w.before args s = true) ∧ meth.locks = false ∧
  va_K D vwCl (zTys G) s ∧ (∀ q : Nat, s.heap.size ≤ q → A q) ∧ zEX zTab ad0 adV A s s.heap ∧ (zdp f ≤ R.frames ∧ 64 * zdp f ≤ R.locals ∧ zmc f ≤ R.cells ∧ zms f ≤ R.slots) ∧ c.exceptionTable.toList = tableOf (zhh f) ∧ l.stackTraces = false ∧ (meth.name = (zy f).name ∧ ∀ q, zsc f = some q → va_X (ad0 zSC) q.1 q.2 s s.heap ∧ ad0 zSC < s.heap.size ∧ ¬ A (ad0 zSC)) ∧ ∀ q ∈ zft f, zFok (zy f).cls q
