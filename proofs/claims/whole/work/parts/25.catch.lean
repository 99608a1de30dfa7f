/-! ===== methods with handlers: their calls, their contracts, calls of them ===== -/
/-- a throw of E at pc is caught by the row whose handler is at h -/
def zHit (f : ZCf) (pc : Nat) (E : String) (h : Nat) : Prop := ∃ (pre suf : List (Nat × Nat × Nat × Nat)) (x : Nat × Nat × Nat × Nat), zhh f = pre ++ x :: suf ∧ (∀ z ∈ pre, ∃ nm, z.2.2.2 ≠ 0 ∧ Cond.classLink (zy f).cls z.2.2.2 nm ∈ zAll ∧ (E, nm) ∈ zNcs) ∧ x.1 ≤ pc ∧ pc < x.2.1 ∧ x.2.2.2 ≠ 0 ∧ Cond.classLink (zy f).cls x.2.2.2 E ∈ zAll ∧ Cond.castable E E ∈ zOther ∧ x.2.2.1 = h
/-- 'astore k' at h -/
def zAst (f : ZCf) (h ln k : Nat) : Prop := k < znL f ∧ ((∃ j : Fin 4, decode (zcc f) h = .ok (.astore_n j, 1) ∧ (j : Nat) = k ∧ ln = 1) ∨ (decode (zcc f) h = .ok (.astore k, 2) ∧ ln = 2))
def zHan (f : ZCf) (pc : Nat) (q : String × Int) : Prop := ∃ h ln k, zHit f pc q.1 h ∧ zAst f h ln k ∧ decode (zcc f) (h + ln) = .ok (.iconst q.2, 1) ∧ decode (zcc f) (h + ln + 1) = .ok (.ireturn, 1)
def zXh : List (String × Int) → String → ZMem → Option ZRes
  | [], _, _ => none
  | q :: t, E, μ => if E = q.1 then some (.inr (some (zI q.2)), μ) else zXh t E μ
theorem zXh_mem : ∀ {hs : List (String × Int)} {E : String} {μ : ZMem} {r : ZRes}, zXh hs E μ = some r → ∃ q ∈ hs, E = q.1 ∧ r = (.inr (some (zI q.2)), μ)
  | [], _, _, _, h => by cases h
  | q :: t, E, μ, r, h => by
    unfold zXh at h
    by_cases he : E = q.1
    · rw [if_pos he] at h
      exact ⟨q, List.mem_cons_self, he, (Option.some.inj h).symm⟩
    · rw [if_neg he] at h
      obtain ⟨q2, h1, h2, h3⟩ := zXh_mem h
      exact ⟨q2, List.mem_cons_of_mem _ h1, h2, h3⟩
section ZH
variable {f g : ZCf} {n0 : Nat} {S1 S Sg : List ZSh} {pc : Nat} {L : List (Nat × ZV)} {st stk : List ZV} {μ : ZMem} {kc ks : Nat} {x : Option ZRes} {K : Option ZV → ZMem → Option ZRes} {pl : List Nat} {av : List ZV} {idx n : Nat} {hs9 : List (String × Int)}
set_option maxHeartbeats 1000000 in
theorem AW.callVh {b0 ci : Nat} {fl : List (Nat × Option Nat)} {T : u_T} {N : Nat} (hd : decode (zcc f) pc = .ok (.invokevirtual idx, 3)) (hg : ∀ l : Launch, l.stackTraces = false → ∀ r, x = some r → ZC l g Sg Sg (zR (some b0) :: av) (zVw pl μ) r)
    (hs : zSub S pl Sg) (hst : stk = (av.map (zRv pl)).reverse ++ zR (some (zRho pl b0)) :: st) (hcal : zCallee g n) (hn : av.length = n) (hw : ∀ w ∈ [Cond.methodLink (zy f).cls idx (zy g), .instanceMethod (zy g), .selects (zy g).cls (zy g) (zy g), .initialized (zy g).cls], w ∈ zAll)
    (hr : S[zRho pl b0]? = some (.inl (ci, fl))) (hc : vwCl[ci]? = some ((zy g).cls, T, N)) (hfit : zFit f g kc ks) (hrest : (st.map zcat).sum ≤ 8) (hH : ∀ q ∈ hs9, zHan f pc q) (hrt : zrt f = some .int)
    (kr : ∀ v μ1, AW f n0 S S (pc + 3) L ((v.map (zRv pl)).toList ++ st) μ1 (kc + zmc g) (ks + zms g) (K v μ1)) : AW f n0 S S pc L stk μ kc ks (zCm pl μ x K (zXh hs9)) := by
  intro p l e R s m args below meth c D G ad0 adV A Q C r9 hr9 hE ad H locs ls hag hP hD hS hl
  have C0 := C
  obtain ⟨hx, hb, -, hml, hown, hts, hlk, hK, hA, hX, ⟨hRf, hRl, hRc, hRs⟩, htab, hlt, -, -⟩ := C0
  have hX' := hX.ad (ad' := ad) (fun k hk => hag k (Or.inr hk))
  unfold zCm at hr9
  cases hxx : x with
  | none => rw [hxx] at hr9; cases hr9
  | some r =>
    obtain ⟨hhg, hwg, hy1, hy2, hyd⟩ := hcal
    have hws : zWs g = Cond.code (zy g) (zcc g) (znL g) (zrt g) :: zAll := by
      unfold zWs zWd
      rw [hhg]
    obtain ⟨f1, f2, f3, f4⟩ := hfit
    have hM := hg l hlt r hxx D G (fun k => ad (zRho pl k)) adV H.size
    have e1 : stk.map (zTr ad) = (av.map (zTr (fun k => ad (zRho pl k)))).reverse ++ Value.ref (ad (zRho pl b0)) :: st.map (zTr ad) := by
      rw [hst, List.map_append, List.map_reverse, List.map_map, List.map_cons]
      congr 2
      exact List.map_congr_left (fun v _ => zRv_tr ad pl v)
    have hrc := va_recv hK hP hc (zConc_at (G := G) (ad := ad) (μ := μ) hr)
    have hrun := vx_runV (e := e) (below := below) (meth := meth) (locs := locs) (cells := kc) (slots := ks) (g := F0 m pc ls (stk.map (zTr ad))) (rest := st.map (zTr ad)) (As := av.map (zTr (fun k => ad (zRho pl k)))) (C := (zy g).cls) (R := R) ⟨hx, hb, hml, hown, hts⟩ hM
      (cwV n hts (zGoodWs hw hwg) hws rfl rfl ⟨rfl, hy1, hy2, hyd⟩ ⟨Nat.le_trans f1 hRf, by show 8 + (znL g + 11) + 64 * zdp g ≤ R.locals; omega⟩)
      ⟨zBlind, hrc, zPre_of (av := zR (some b0) :: av) hs hP hD hS hA hK hX'⟩ rfl (by rw [List.length_map]; exact hn) hl.1 e1 (lv_room (by rw [List.map_map, show ((fun v : Value => v.category) ∘ zTr ad) = zcat from funext fun v => zcat_ok ad v]; exact hrest)) hd ⟨Nat.le_trans f3 hRc, Nat.le_trans f4 hRs⟩
    refine zAfter hs hP hD hS hA hrun (fun v hv H1 locs1 hP1 hS1 => ?_) (fun E hE1 H1 locs1 q ce hP1 hS1 hq hcv hcl => ?_)
    · have ho : K v (zMg pl μ r.2) = some r9 := by
        rw [← hr9, hxx]
        obtain ⟨r1, r2⟩ := r
        cases hv
        rfl
      have w := kr v (zMg pl μ r.2) p l e R s m args below meth c D G ad0 adV A Q C r9 ho hE ad H1 locs1 ls hag hP1 (zD_mem hD) hS1 hl
      have e2 : ((v.map (zRv pl)).toList ++ st).map (zTr ad) = (v.map (zTr (fun k => ad (zRho pl k)))).toList ++ st.map (zTr ad) := by
        rw [List.map_append]
        congr 1
        cases v with
        | none => rfl
        | some v => simp [zRv_tr]
      rw [e2] at w
      exact w
    · have ho : zXh hs9 E (zMg pl μ r.2) = some r9 := by
        rw [← hr9, hxx]
        obtain ⟨r1, r2⟩ := r
        cases hE1
        rfl
      obtain ⟨q9, hq9, rfl, rfl⟩ := zXh_mem ho
      obtain ⟨h, ln, k, ⟨pre, suf, xr, t1, t2, t3, t4, t5, t6, t7, t8⟩, ⟨hkn, hast⟩, d1, d2⟩ := hH q9 hq9
      have tail : ∀ ls' : Array Slot, lv_has ls' (znL f) [] → W p l e R s m args below meth c H1 locs1 (kc + zmc g) (ks + zms g) Q (F0 m (h + ln) ls' []) := fun ls' hl' =>
        AW.iconst (f := f) (n0 := n0) (S1 := S) (S := S) (L := []) (st := []) (μ := zMg pl μ r.2) d1 (AW.reti d2 hrt f3 f4) p l e R s m args below meth c D G ad0 adV A Q C _ rfl hE ad H1 locs1 ls' hag hP1 (zD_mem hD) hS1 hl'
      have hl0 : lv_has ls (znL f) [] := ⟨hl.1, hl.2.1, fun q hq => absurd hq List.not_mem_nil⟩
      refine vx_catch (own := (zy f).cls) (name := q9.1) (E := q9.1) hown (tableOf pre) ⟨xr.1, xr.2.1, xr.2.2.1, xr.2.2.2⟩ (tableOf suf) (by rw [htab, t1]; unfold tableOf; simp) (fun z hz => ?_) ?_ t5 (hts _ t6) ((hX.2.2.2.2.2.2.2.1 _ t7).use (zWarm.tab (zOther.ok t7))) hq hcv hcl ?_
      · obtain ⟨z0, hz0, rfl⟩ := List.mem_map.mp hz
        obtain ⟨nm, n1, n2, n3⟩ := t2 z0 hz0
        exact Or.inr ⟨n1, nm, hts _ n2, hX.2.2.2.2.2.2.2.2.1 _ n3⟩
      · unfold covers
        simp only [Bool.and_eq_true, decide_eq_true_eq]
        exact ⟨t3, t4⟩
      · show W p l e R s m args below meth c H1 locs1 (kc + zmc g) (ks + zms g) Q (F0 m xr.2.2.1 ls [Value.ref q])
        rw [t8]
        rcases hast with ⟨j, dj, hj, rfl⟩ | ⟨dj, rfl⟩
        · exact lv_astore_n hx hb dj hj hl0 hkn rfl (fun ls' hl' => tail ls' ⟨hl'.1, hl'.2.1, fun q hq => absurd hq List.not_mem_nil⟩)
        · exact lv_astore hx hb dj hl0 hkn rfl (fun ls' hl' => tail ls' ⟨hl'.1, hl'.2.1, fun q hq => absurd hq List.not_mem_nil⟩)
def zCalleeH (g : ZCf) (n : Nat) : Prop := zhh g ≠ [] ∧ zWd g ∈ zAll ∧ (zy g).cls ≠ "java/lang/invoke/MethodHandle" ∧ (zy g).cls ≠ "java/lang/invoke/VarHandle" ∧ (parseMethodDescriptor (zy g).desc).map (fun d => d.parameters.length) = some n
theorem zWs_H {g : ZCf} (h : zhh g ≠ []) : zWs g = Cond.codeWith (zy g) (zcc g) (znL g) (zrt g) (zhh g) :: zAll := by
  unfold zWs zWd
  cases hh : zhh g with
  | nil => exact absurd hh h
  | cons a t => rfl
set_option maxHeartbeats 1000000 in
/-- a call of a static method with handlers, which throws nothing on -/
theorem AW.callSh (hd : decode (zcc f) pc = .ok (.invokestatic idx, 3)) (hg : ∀ l : Launch, l.stackTraces = false → ∀ v ν, x = some (.inr v, ν) → ZC l g Sg Sg av (zVw pl μ) (.inr v, ν))
    (hs : zSub S pl Sg) (hst : stk = (av.map (zRv pl)).reverse ++ st) (hcal : zCalleeH g n) (hn : av.length = n) (hw : ∀ w ∈ [Cond.methodLink (zy f).cls idx (zy g), .static (zy g), .initialized (zy g).cls], w ∈ zAll)
    (hfit : zFit f g kc ks) (hrest : (st.map zcat).sum ≤ 8)
    (kr : ∀ v μ1, AW f n0 S1 S (pc + 3) L ((v.map (zRv pl)).toList ++ st) μ1 (kc + zmc g) (ks + zms g) (K v μ1)) : AW f n0 S1 S pc L stk μ kc ks (zCm pl μ x K zX0) := by
  intro p l e R s m args below meth c D G ad0 adV A Q C r9 hr9 hE ad H locs ls hag hP hD hS hl
  have C0 := C
  obtain ⟨hx, hb, -, hml, hown, hts, hlk, hK, hA, hX, ⟨hRf, hRl, hRc, hRs⟩, htab, hlt, -, -⟩ := C0
  have hX' := hX.ad (ad' := ad) (fun k hk => hag k (Or.inr hk))
  unfold zCm at hr9
  cases hxx : x with
  | none => rw [hxx] at hr9; cases hr9
  | some r =>
    obtain ⟨r1, r2⟩ := r
    rcases r1 with E | v0
    · rw [hxx] at hr9; cases hr9
    · obtain ⟨hhg, hwg, hy1, hy2, hyd⟩ := hcal
      have hws := zWs_H hhg
      obtain ⟨f1, f2, f3, f4⟩ := hfit
      have hM := hg l hlt v0 r2 hxx D G (fun k => ad (zRho pl k)) adV H.size
      have e1 : stk.map (zTr ad) = (av.map (zTr (fun k => ad (zRho pl k)))).reverse ++ st.map (zTr ad) := by
        rw [hst, List.map_append, List.map_reverse, List.map_map]
        congr 2
        exact List.map_congr_left (fun v _ => zRv_tr ad pl v)
      have hrun := vx_runSX (e := e) (below := below) (meth := meth) (locs := locs) (cells := kc) (slots := ks) (g := F0 m pc ls (stk.map (zTr ad))) (rest := st.map (zTr ad)) (As := av.map (zTr (fun k => ad (zRho pl k)))) (R := R) ⟨hx, hb, hml, hown, hts⟩ hM
        (vx_cwSW n hts (zGoodWs hw hwg) hws rfl rfl ⟨hy1, hy2, hyd⟩ ⟨Nat.le_trans f1 hRf, by show 8 + (znL g + 11) + 64 * zdp g ≤ R.locals; omega⟩)
        ⟨zBlind, zPre_of (av := av) hs hP hD hS hA hK hX'⟩ rfl (by rw [List.length_map]; exact hn) hl.1 e1 (lv_room (by rw [List.map_map, show ((fun v : Value => v.category) ∘ zTr ad) = zcat from funext fun v => zcat_ok ad v]; exact hrest)) hd ⟨Nat.le_trans f3 hRc, Nat.le_trans f4 hRs⟩
      refine zAfter (r := (.inr v0, r2)) hs hP hD hS hA hrun (fun v hv H1 locs1 hP1 hS1 => ?_) (fun E hE1 => by cases hE1)
      have ho : K v (zMg pl μ r2) = some r9 := by
        rw [← hr9, hxx]
        cases hv
        rfl
      have w := kr v (zMg pl μ r2) p l e R s m args below meth c D G ad0 adV A Q C r9 ho hE ad H1 locs1 ls hag hP1 (zD_mem hD) hS1 hl
      have e2 : ((v.map (zRv pl)).toList ++ st).map (zTr ad) = (v.map (zTr (fun k => ad (zRho pl k)))).toList ++ st.map (zTr ad) := by
        rw [List.map_append]
        congr 1
        cases v with
        | none => rfl
        | some v => simp [zRv_tr]
      rw [e2] at w
      exact w
end ZH
set_option maxHeartbeats 4000000 in
/-- the contract of a method with handlers that throws nothing on -/
theorem ZC.ofH {l : Launch} {f : ZCf} {S S1 : List ZSh} {av : List ZV} {μ : ZMem} {o : Option ZRes} {v0 : Option ZV} {ν : ZMem} (hl : l.stackTraces = false) (hy : plainName (zy f).cls = true) (hh : zhh f ≠ []) (hsc : zsc f = none) (hft : ∀ q ∈ zft f, zFok (zy f).cls q) (hn : (av.map zcat).sum ≤ znL f) (hr : o = some (.inr v0, ν))
    (h : AW f S.length S1 S 0 (zArgs 0 av) [] μ 0 0 o) : ZC l f S S1 av μ (.inr v0, ν) := by
  intro D G ad adV sz
  have hws := zWs_H hh
  refine vx_ofWH (cc := zcc f) (maxL := znL f) (ret := zrt f) (hh := zhh f) (ws' := zAll) hy hws ?_
  intro p e s m args below meth c s₁ B hml hv
  obtain ⟨rfl, hsz, hP, hK, hD0, hX⟩ := hv
  subst hsz
  have hx := B.exec
  have hts := atoms_spec (ws := zWs f) B.pre
  have hname : meth.name = (zy f).name := (name_of_methodNamed B.named B.method).1
  have htl : c.exceptionTable.toList = tableOf (zhh f) := by
    obtain ⟨m9, meth9, c9, h0, h1, h2, -, -, h5, -⟩ := Cond.codeWith_spec (hts _ (by rw [hws]; exact List.mem_cons_self))
    cases Option.some.inj (h0.symm.trans B.named)
    cases Option.some.inj (h1.symm.trans B.method)
    cases Option.some.inj (h2.symm.trans (Stand.of_body B).code)
    rw [← h5]
    unfold tableOf
    rw [List.map_map]
    exact (List.map_id _).symm
  have hD := hD0.self (sz := s.heap.size)
  have hC : zCx f p l (headSpec (zWs f) (zRoom f)).room s m (av.map (zTr ad)).toArray meth c D G ad adV (va_A (zConc G ad S μ) s.heap.size) :=
    ⟨B.exec, B.bytes, B.returns, hml, findClass_of_methodNamed B.named, fun w hw => hts w (List.mem_cons_of_mem _ hw), B.notSynchronized, hK, fun q hq => Or.inr hq, hX, ⟨Nat.le_refl _, Nat.le_refl _, Nat.le_refl _, Nat.le_refl _⟩, htl, hl, ⟨hname, fun q hq => by rw [hsc] at hq; cases hq⟩, hft⟩
  rw [lg_entry_eq]
  have hls := lv_entry (av.map (zTr ad)) (n := znL f) (by rw [zsl_len]; exact hn)
  rw [← zArgs_map] at hls
  refine h p l e _ s m _ below meth c D G ad adV _ _ hC _ hr ⟨fun v hv H locs kc ks ls pc i hS hPo hc hs hd hro => ?_, fun E hE => by cases hE⟩ ad s.heap [] _ (fun _ _ => rfl) hP hD va_S.rf hls
  have hq : ∀ t : State, t.heap = H → s.WarmedH t.vm → zQc D G ad S.length (va_A (zConc G ad S μ) s.heap.size) S1 (.inr v0, ν) (av.map (zTr ad)).toArray s (.returned (v.map (zTr ad))) t := fun t ht _ => ⟨⟨v, hv, rfl, by rw [ht]; exact hPo⟩, hS.F ht⟩
  refine vx_ret (W.widen hc hs ?_)
  have hrr := B.returns
  have hbb := B.bytes
  have hlk := B.notSynchronized
  rcases v with _ | a | a | a | a | a
  · obtain ⟨rfl, h2⟩ := hro
    exact W.vret hx hbb (hrr.trans h2) hq hS.2.2 hd
  · obtain ⟨rfl, ty, h2, h3⟩ := hro
    exact W.zret hx hbb (hrr.trans h2) h3 hq hS.2.2 hd
  · obtain ⟨rfl, h2⟩ := hro
    exact W.lret hx hbb (hrr.trans h2) hq hS.2.2 hd
  · obtain ⟨rfl, h2⟩ := hro
    exact W.fret hx hbb (hrr.trans h2) hq hS.2.2 hd
  · obtain ⟨rfl, h2⟩ := hro
    exact W.dret hx hbb (hrr.trans h2) hq hS.2.2 hd
  · obtain ⟨rfl, ty, h2, h3⟩ := hro
    refine W.aret hx hbb (hrr.trans h2) h3 ?_ hq hS.2.2 hd
    cases a with
    | none => exact Or.inl rfl
    | some k => exact Or.inr ⟨_, rfl⟩
