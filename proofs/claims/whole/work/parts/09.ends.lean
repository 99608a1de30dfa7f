/-! ===== the rules of the walk: a method's ends; its contract out of its walk ===== -/
section ZE
variable {f : ZCf} {n0 : Nat} {S1 S : List ZSh} {pc : Nat} {L : List (Nat × ZV)} {st : List ZV} {μ : ZMem} {kc ks : Nat} {o : Option ZRes}
theorem AW.noth : AW f n0 S1 S pc L st μ kc ks none := by
  intro _ _ _ _ _ _ _ _ _ _ _ _ _ _ _ _ _ r hr
  cases hr
theorem AW.retv (hd : decode (zcc f) pc = .ok (.return_, 1)) (ht : zrt f = none) (hc : kc ≤ zmc f) (hs : ks ≤ zms f) : AW f n0 S S pc L [] μ kc ks (some (.inr none, μ)) := by
  intro p l e R s m args below meth c D G ad0 adV A Q C r hr hE ad H locs ls hg hP hD hS hl
  cases hr
  exact hE.1 none rfl H locs kc ks ls pc _ hS ⟨ad, hg, hP, hD⟩ hc hs hd ⟨rfl, ht⟩
theorem AW.reti {a : Int} (hd : decode (zcc f) pc = .ok (.ireturn, 1)) (ht : zrt f = some .int) (hc : kc ≤ zmc f) (hs : ks ≤ zms f) : AW f n0 S S pc L [zI a] μ kc ks (some (.inr (some (zI a)), μ)) := by
  intro p l e R s m args below meth c D G ad0 adV A Q C r hr hE ad H locs ls hg hP hD hS hl
  cases hr
  exact hE.1 (some (zI a)) rfl H locs kc ks ls pc _ hS ⟨ad, hg, hP, hD⟩ hc hs hd ⟨rfl, _, ht, rfl⟩
theorem AW.retb1 {a : Int} (hd : decode (zcc f) pc = .ok (.ireturn, 1)) (ht : zrt f = some .boolean) (ha : a = 0 ∨ a = 1) (hc : kc ≤ zmc f) (hs : ks ≤ zms f) : AW f n0 S S pc L [zI a] μ kc ks (some (.inr (some (zI a)), μ)) := by
  intro p l e R s m args below meth c D G ad0 adV A Q C r hr hE ad H locs ls hg hP hD hS hl
  cases hr
  refine hE.1 (some (zI a)) rfl H locs kc ks ls pc _ hS ⟨ad, hg, hP, hD⟩ hc hs hd ⟨rfl, _, ht, ?_⟩
  rcases ha with rfl | rfl <;> decide +kernel
theorem AW.retb {a : Int} (hd : decode (zcc f) pc = .ok (.ireturn, 1)) (ht : zrt f = some .boolean) (hc : kc ≤ zmc f) (hs : ks ≤ zms f) : AW f n0 S S pc L [zI a] μ kc ks (if a = 0 ∨ a = 1 then some (.inr (some (zI a)), μ) else none) := by
  by_cases h : a = 0 ∨ a = 1
  · rw [if_pos h]
    exact AW.retb1 hd ht h hc hs
  · rw [if_neg h]
    exact AW.noth
theorem AW.retl {a : Int} (hd : decode (zcc f) pc = .ok (.lreturn, 1)) (ht : zrt f = some .long) (hc : kc ≤ zmc f) (hs : ks ≤ zms f) : AW f n0 S S pc L [zJ a] μ kc ks (some (.inr (some (zJ a)), μ)) := by
  intro p l e R s m args below meth c D G ad0 adV A Q C r hr hE ad H locs ls hg hP hD hS hl
  cases hr
  exact hE.1 (some (zJ a)) rfl H locs kc ks ls pc _ hS ⟨ad, hg, hP, hD⟩ hc hs hd ⟨rfl, ht⟩
theorem AW.retd {a : UInt64} (hd : decode (zcc f) pc = .ok (.dreturn, 1)) (ht : zrt f = some .double) (hc : kc ≤ zmc f) (hs : ks ≤ zms f) : AW f n0 S S pc L [zD a] μ kc ks (some (.inr (some (zD a)), μ)) := by
  intro p l e R s m args below meth c D G ad0 adV A Q C r hr hE ad H locs ls hg hP hD hS hl
  cases hr
  exact hE.1 (some (zD a)) rfl H locs kc ks ls pc _ hS ⟨ad, hg, hP, hD⟩ hc hs hd ⟨rfl, ht⟩
theorem AW.reta {a : Nat} {cn : String} (hd : decode (zcc f) pc = .ok (.areturn, 1)) (ht : zrt f = some (.object cn)) (ha : a < n0 ∨ zSB ≤ a) (hc : kc ≤ zmc f) (hs : ks ≤ zms f) : AW f n0 S S pc L [zR (some a)] μ kc ks (some (.inr (some (zR (some a))), μ)) := by
  intro p l e R s m args below meth c D G ad0 adV A Q C r hr hE ad H locs ls hg hP hD hS hl
  cases hr
  have h := hE.1 (some (zR (some a))) rfl H locs kc ks ls pc _ hS ⟨ad, hg, hP, hD⟩ hc hs hd ⟨rfl, _, ht, Or.inl ⟨_, rfl⟩⟩
  have e1 : (Option.toList (some (zR (some a)))).map (zTr ad0) = [zR (some a)].map (zTr ad) := by
    show [Value.ref (ad0 a)] = [Value.ref (ad a)]
    rw [hg a ha]
  rw [e1] at h
  exact h
theorem AW.throw {ik ic : Nat} {names : List String} {E : String} (h : zThr f pc ik ic names E) (hw : (st.map zcat).sum ≤ 8) (hc : kc + 1 ≤ zmc f) (hs : ks + 6 ≤ zms f) : AW f n0 S S pc L st μ kc ks (some (.inl E, μ)) := by
  intro p l e R s m args below meth c D G ad0 adV A Q C r hr hE ad H locs ls hg hP hD hS hl
  cases hr
  refine (hE.2 E rfl).2 H locs kc ks ls _ pc ik ic names hS ⟨ad, hg, hP, hD⟩ hc hs hl.1 ?_ h
  rw [List.map_map]
  have e1 : ((fun v : Value => v.category) ∘ zTr ad) = zcat := funext fun v => zcat_ok ad v
  rw [e1]
  exact hw
end ZE
/-! ===== contracts ===== -/
def zPre (D : va_G) (G : ZG) (ad adV : Nat → Nat) (S : List ZSh) (μ : ZMem) (sz : Nat) (av : List ZV) : Array Value → State → Prop :=
  va_Pc (av.map (zTr ad)) (fun U => U.heap.size = sz ∧ va_P D vwCl (zConc G ad S μ) U.heap ∧ va_K D vwCl (zTys G) U ∧ va_D (fun _ => True) (zConc G ad S μ) ∧ zEX zTab ad adV (va_A (zConc G ad S μ) sz) U U.heap)
def zQc (D : va_G) (G : ZG) (ad : Nat → Nat) (n0 : Nat) (A : Nat → Prop) (S1 : List ZSh) (r : ZRes) : Array Value → State → Outcome → State → Prop := fun _ st oc t =>
  (∃ v, r.1 = .inr v ∧ oc = .returned (v.map (zTr ad)) ∧ zPost D G ad n0 A S1 r.2 t.heap) ∧ va_F A st t
def zXC (D : va_G) (G : ZG) (ad : Nat → Nat) (n0 : Nat) (A : Nat → Prop) (S1 : List ZSh) (r : ZRes) : String → State → State → Prop := fun E st t =>
  r.1 = .inl E ∧ zPost D G ad n0 A S1 r.2 t.heap ∧ va_F A st t
/-- what a method does: in the world S, with these arguments and numbers, it comes to r -/
def ZC (l : Launch) (f : ZCf) (S S1 : List ZSh) (av : List ZV) (μ : ZMem) (r : ZRes) : Prop := ∀ (D : va_G) (G : ZG) (ad adV : Nat → Nat) (sz : Nat),
  vx_Met l (zy f) (zWs f) (zRoom f) (zPre D G ad adV S μ sz av) (zQc D G ad S.length (va_A (zConc G ad S μ) sz) S1 r) (zXC D G ad S.length (va_A (zConc G ad S μ) sz) S1 r) (zmc f) (zms f) (va_A (zConc G ad S μ) sz)
def zArgs : Nat → List ZV → List (Nat × ZV)
  | _, [] => []
  | i, v :: t => (i, v) :: zArgs (i + zcat v) t
theorem zArgs_map (ad : Nat → Nat) : ∀ (i : Nat) (av : List ZV), (zArgs i av).map (fun q => (q.1, zTr ad q.2)) = lv_args i (av.map (zTr ad))
  | _, [] => rfl
  | i, v :: t => by
    have h : (if (zTr ad v).category = 2 then i + 2 else i + 1) = i + zcat v := by
      rw [zcat_ok]
      rcases v with a | a | a | a | r <;> rfl
    rw [zArgs, List.map_cons, List.map_cons, lv_args, h, zArgs_map ad _ t]
theorem zsl_len (ad : Nat → Nat) : ∀ av : List ZV, (lg_sl (av.map (zTr ad))).length = (av.map zcat).sum
  | [] => rfl
  | v :: t => by
    have ih := zsl_len ad t
    unfold lg_sl at ih ⊢
    rw [List.map_cons, List.flatMap_cons, List.length_append, ih, List.map_cons, List.sum_cons, zcat_ok]
    rcases v with a | a | a | a | r <;> rfl
theorem zPost.mono {D : va_G} {G : ZG} {ad0 : Nat → Nat} {n0 : Nat} {A : Nat → Prop} {S1 : List ZSh} {μ : ZMem} {H : Heap} (h : zPost D G ad0 n0 A S1 μ H) {H1 : Heap} (hk : ∀ q : Nat, q < H.size → H1[q]? = H[q]?) : zPost D G ad0 n0 A S1 μ H1 := by
  obtain ⟨ad, h1, h2, h3⟩ := h
  exact ⟨ad, h1, h2.kept (fun k q hq => hk _ (h2 k q hq).lt), h3⟩
set_option maxHeartbeats 4000000 in
/-- a method's contract, out of its walk from its entry -/
theorem ZC.of {l : Launch} {f : ZCf} {S S1 : List ZSh} {av : List ZV} {μ : ZMem} {o : Option ZRes} {r : ZRes} (hl : l.stackTraces = false) (hy : plainName (zy f).cls = true) (hh : zhh f = []) (hsc : zsc f = none) (hft : ∀ q ∈ zft f, zFok (zy f).cls q) (hn : (av.map zcat).sum ≤ znL f) (hr : o = some r)
    (h : AW f S.length S1 S 0 (zArgs 0 av) [] μ 0 0 o) : ZC l f S S1 av μ r := by
  intro D G ad adV sz
  have hws : zWs f = Cond.code (zy f) (zcc f) (znL f) (zrt f) :: zAll := by
    unfold zWs zWd
    rw [hh]
  refine vx_ofW (cc := zcc f) (maxL := znL f) (ret := zrt f) (ws' := zAll) hy hws ?_
  intro p e s m args below meth c s₁ B hml htab hv
  obtain ⟨rfl, hsz, hP, hK, hD0, hX⟩ := hv
  subst hsz
  have hx := B.exec
  have hts := atoms_spec (ws := zWs f) B.pre
  have hname : meth.name = (zy f).name := (name_of_methodNamed B.named B.method).1
  have htl : c.exceptionTable.toList = tableOf (zhh f) := by
    rw [hh]
    exact List.eq_nil_iff_forall_not_mem.mpr (fun x hx => htab x hx)
  have hD := hD0.self (sz := s.heap.size)
  have hC : zCx f p l (headSpec (zWs f) (zRoom f)).room s m (av.map (zTr ad)).toArray meth c D G ad adV (va_A (zConc G ad S μ) s.heap.size) :=
    ⟨B.exec, B.bytes, B.returns, hml, findClass_of_methodNamed B.named, fun w hw => hts w (List.mem_cons_of_mem _ hw), B.notSynchronized, hK, fun q hq => Or.inr hq, hX, ⟨Nat.le_refl _, Nat.le_refl _, Nat.le_refl _, Nat.le_refl _⟩, htl, hl, ⟨hname, fun q hq => by rw [hsc] at hq; cases hq⟩, hft⟩
  rw [lg_entry_eq]
  have hls := lv_entry (av.map (zTr ad)) (n := znL f) (by rw [zsl_len]; exact hn)
  rw [← zArgs_map] at hls
  refine h p l e _ s m _ below meth c D G ad adV _ _ hC r hr ⟨fun v hv H locs kc ks ls pc i hS hPo hc hs hd hro => ?_, fun E hE => ⟨fun H locs kc ks ls st pc q ce hS hPo hc hs hcov hq hcv hcl => ?_, fun H locs kc ks ls st pc ik ic names hS hPo hc hs hsize hwd ht => ?_⟩⟩ ad s.heap [] _ (fun _ _ => rfl) hP hD va_S.rf hls
  · have hq : ∀ t : State, t.heap = H → s.WarmedH t.vm → zQc D G ad S.length (va_A (zConc G ad S μ) s.heap.size) S1 r (av.map (zTr ad)).toArray s (.returned (v.map (zTr ad))) t := fun t ht _ => ⟨⟨v, hv, rfl, by rw [ht]; exact hPo⟩, hS.F ht⟩
    refine vx_ret (W.widen hc hs ?_)
    have hrr := B.returns
    have hbb := B.bytes
    have hlk := B.notSynchronized
    rcases v with _ | a | a | a | a | a
    · obtain ⟨rfl, h2⟩ := hro
      exact W.vret hx hbb (hrr.trans h2) hq hS.2.2 hd
    · obtain ⟨rfl, ty, h2, h3⟩ := hro
      exact W.zret hx hbb (hrr.trans h2) h3 hq hS.2.2 hd
    · obtain ⟨rfl, h2⟩ := hro
      exact W.lret hx hbb (hrr.trans h2) hq hS.2.2 hd
    · obtain ⟨rfl, h2⟩ := hro
      exact W.fret hx hbb (hrr.trans h2) hq hS.2.2 hd
    · obtain ⟨rfl, h2⟩ := hro
      exact W.dret hx hbb (hrr.trans h2) hq hS.2.2 hd
    · obtain ⟨rfl, ty, h2, h3⟩ := hro
      refine W.aret hx hbb (hrr.trans h2) h3 ?_ hq hS.2.2 hd
      cases a with
      | none => exact Or.inl rfl
      | some k => exact Or.inr ⟨_, rfl⟩
  · exact vx_out hcov B.notSynchronized hq hcv hcl (fun t ht _ => ⟨hE, by rw [ht]; exact hPo, hS.F ht⟩) hS.2.2 hc hs
  · obtain ⟨t1, t2, t3, t4, t5, t6, d0, d3, d4, d7, -, tn⟩ := ht
    have hgo := fun w (hw : w ∈ zAll) => hts w (List.mem_cons_of_mem _ hw)
    have hXX := hX.2.2.2.2.2
    refine vx_throw0 hx B.bytes hl (findClass_of_methodNamed B.named) t1 t2 (hgo _ t3) (hgo _ t4) (fun w hw => (t5 w hw).elim (hgo w) (fun h9 => (hXX.2.2.1 w h9).use (zWarm.tab (zOther.ok h9)))) t6 hXX.1 hXX.2.1 hS (hsize.trans hml.symm) d0 d3 d4 d7 (fun x hx => (htab x hx).elim) ?_ ?_ (Nat.le_trans hc (Nat.le_refl _)) (Nat.le_trans hs (Nat.le_refl _)) B.notSynchronized (fun t _ hz hk => ⟨hE, hPo.mono hk, ?_⟩) hS.2.2 hc hs
    · exact tn
    · show _ ≤ 64 * zdp f
      omega
    · refine ⟨Nat.le_trans hS.1 hz, fun q h1 h2 => ?_⟩
      rw [hk q (Nat.lt_of_lt_of_le h1 hS.1)]
      exact hS.2.1 q h1 h2
