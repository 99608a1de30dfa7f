/-! ===== the rules of the walk: invokevirtual, invokestatic ===== -/
def zC (x : Option ZRes) (K : Option ZV → ZMem → Option ZRes) (X : String → ZMem → Option ZRes) : Option ZRes := match x with
  | none => none
  | some (.inr v, ν) => K v ν
  | some (.inl E, ν) => X E ν
def zkI (K : Int → ZMem → Option ZRes) (v : Option ZV) (ν : ZMem) : Option ZRes := match v with
  | some (.inl a) => K a ν
  | _ => none
def zkJ (K : Int → ZMem → Option ZRes) (v : Option ZV) (ν : ZMem) : Option ZRes := match v with
  | some (.inr (.inl a)) => K a ν
  | _ => none
def zkV (K : ZMem → Option ZRes) (v : Option ZV) (ν : ZMem) : Option ZRes := match v with
  | none => K ν
  | _ => none
def zkD (K : UInt64 → ZMem → Option ZRes) (v : Option ZV) (ν : ZMem) : Option ZRes := match v with
  | some (.inr (.inr (.inr (.inl a)))) => K a ν
  | _ => none
def zkR (K : Nat → ZMem → Option ZRes) (v : Option ZV) (ν : ZMem) : Option ZRes := match v with
  | some (.inr (.inr (.inr (.inr (some a))))) => K a ν
  | _ => none
/-- nothing is thrown -/
def zX0 : String → ZMem → Option ZRes := fun _ _ => none
theorem zBlind {D : va_G} {G : ZG} {ad adV : Nat → Nat} {S : List ZSh} {μ : ZMem} {sz : Nat} {av : List ZV} : FrameBlind (zPre D G ad adV S μ sz av) := fun a U g mk q => by
  obtain ⟨q0, q1, qP, qK, qD, qX⟩ := q
  exact ⟨q0, q1, qP, va_K.moved (u := U) (U := U.calling g mk a) (Vm.Alike.refl U.vm) qK, qD, zEX.same (s := U) (U := U.calling g mk a) rfl qX⟩
section ZI
variable {p : Program} {l : Launch} {e : Env} {R : Room} {s : State} {m : MethodId} {args : Array Value} {below : List Frame} {meth : Method} {c : Code} {D : va_G} {G : ZG} {ad adV : Nat → Nat} {A : Nat → Prop} {Q : State → Prop} {H : Heap} {locs : List Loc} {ls : Array Slot}
/-- what the callee finds -/
theorem zPre_of {S Sg : List ZSh} {pl : List Nat} {μ : ZMem} {av : List ZV} (hs : zSub S pl Sg) (hP : va_P D vwCl (zConc G ad S μ) H) (hD : va_D A (zConc G ad S μ)) (hS : va_S A s.heap H locs) (hA : ∀ q : Nat, s.heap.size ≤ q → A q) (hK : va_K D vwCl (zTys G) s) (hX : zEX zTab ad adV A s s.heap) :
    ∀ U : State, U.heap = H → s.WarmedH U.vm → zPre D G (fun k => ad (zRho pl k)) adV Sg (fun k => μ (zRho pl k)) H.size av (av.map (zTr (fun k => ad (zRho pl k)))).toArray U := by
  intro U hU hW
  have hc := hs.conc G ad μ
  refine ⟨rfl, by rw [hU], ?_, va_K.moved hW.alike hK, ?_, ?_⟩
  · rw [hU]
    refine hP.sub pl ?_
    have e1 : pl.filterMap (fun i => (zConc G ad S μ)[i]?) = (pl.map (fun i => (zConc G ad S μ)[i]?)).filterMap id := by
      rw [List.filterMap_map]
      rfl
    rw [e1, hc, List.filterMap_map]
    exact List.filterMap_some
  · exact (hD.sub pl hs.2.1 hc).weaken (fun _ _ _ _ => trivial)
  · rw [hU]
    have hF := va_free (wc := zConc G (fun k => ad (zRho pl k)) Sg (fun k => μ (zRho pl k))) hD hS hA pl hc
    have h1 : zEX zTab ad adV A s H := hX.kept (fun a h2 h3 => hS.2.1 a h2 h3)
    refine ((h1.narrow hF).warm hW).ad (fun k hk => ?_)
    have hl : pl.length ≤ 1000 := Nat.le_of_ble_eq_true hs.2.2.2
    unfold zRho
    rw [List.getD_eq_getElem?_getD, List.getElem?_eq_none (by have : zSB = 1000000 := rfl; omega)]
    rfl
/-- behind the callee -/
theorem zAfter {S Sg : List ZSh} {pl : List Nat} {μ : ZMem} {r : ZRes} {mc ms kc ks pc : Nat} {stk rest : List Value} {avA : Array Value} (hs : zSub S pl Sg) (hP : va_P D vwCl (zConc G ad S μ) H) (hD : va_D A (zConc G ad S μ)) (hS : va_S A s.heap H locs) (hA : ∀ q : Nat, s.heap.size ≤ q → A q)
    (hrun : vx_Run p l e R s m args below meth c H locs kc ks mc ms (F0 m pc ls stk) rest (zQc D G (fun k => ad (zRho pl k)) Sg.length (va_A (zConc G (fun k => ad (zRho pl k)) Sg (fun k => μ (zRho pl k))) H.size) Sg r avA) (zXC D G (fun k => ad (zRho pl k)) Sg.length (va_A (zConc G (fun k => ad (zRho pl k)) Sg (fun k => μ (zRho pl k))) H.size) Sg r) (va_A (zConc G (fun k => ad (zRho pl k)) Sg (fun k => μ (zRho pl k))) H.size))
    (kr : ∀ v, r.1 = .inr v → ∀ (H1 : Heap) (locs1 : List Loc), va_P D vwCl (zConc G ad S (zMg pl μ r.2)) H1 → va_S A s.heap H1 locs1 → W p l e R s m args below meth c H1 locs1 (kc + mc) (ks + ms) Q (F0 m (pc + 3) ls ((v.map (zTr (fun k => ad (zRho pl k)))).toList ++ rest)))
    (kx : ∀ E, r.1 = .inl E → ∀ (H1 : Heap) (locs1 : List Loc) (q : Addr) (ce : Cell), va_P D vwCl (zConc G ad S (zMg pl μ r.2)) H1 → va_S A s.heap H1 locs1 → H1[q]? = some ce → ce.vm = .none → s.vm.findClass E = some ce.cls → vx_W p l e R s m args below meth c H1 locs1 (kc + mc) (ks + ms) Q (F0 m pc ls rest) q) :
    W p l e R s m args below meth c H locs kc ks Q (F0 m pc ls stk) := by
  have hF := va_free (wc := zConc G (fun k => ad (zRho pl k)) Sg (fun k => μ (zRho pl k))) hD hS hA pl (hs.conc G ad μ)
  have join : ∀ {H1 : Heap}, (∀ q : Nat, q < H.size → ¬ va_A (zConc G (fun k => ad (zRho pl k)) Sg (fun k => μ (zRho pl k))) H.size q → H1[q]? = H[q]?) → zPost D G (fun k => ad (zRho pl k)) Sg.length (va_A (zConc G (fun k => ad (zRho pl k)) Sg (fun k => μ (zRho pl k))) H.size) Sg r.2 H1 → va_P D vwCl (zConc G ad S (zMg pl μ r.2)) H1 := by
    intro H1 hk hz
    obtain ⟨ad2, ha, hp, -⟩ := hz
    rw [zConc_agr ha hs.2.2.1 (Nat.le_refl _)] at hp
    exact zJoin hs hP hD hk hp
  intro T hT X
  rcases hrun T hT X with ⟨v, st₀, t, T', Lx, h0, X', hL, e1, e2, ⟨⟨v', hv', ho, hPo⟩, hFr⟩, st⟩ | ⟨q, st₀, t, T', Lx, E, ce, h0, X', hL, e1, e2, ⟨hE, hPo, hFr⟩, hq, hcv, hcl, st⟩
  · obtain ⟨k1, k2, k3⟩ := vx_keep h0 e1 hS (fun q _ h => hF q h) hF hL hFr
    have hv : v = v'.map (zTr (fun k => ad (zRho pl k))) := by cases ho; rfl
    subst hv
    rw [← e1] at hPo
    obtain ⟨t2, a1, b1⟩ := kr v' hv' T'.heap (locs ++ Lx) (join k2 hPo) k3 T' rfl X'
    exact ⟨t2, st t2 a1, b1⟩
  · obtain ⟨k1, k2, k3⟩ := vx_keep h0 e1 hS (fun q _ h => hF q h) hF hL hFr
    rw [← e1] at hPo hq
    obtain ⟨t2, a1, b1⟩ := kx E hE T'.heap (locs ++ Lx) q ce (join k2 hPo) k3 hq hcv hcl T' rfl X'
    exact ⟨t2, st.trans a1, b1⟩
end ZI
def zSame (n : Nat) (μ μ' : ZMem) : Prop := ∀ k, k < n → ∀ i, μ k i = μ' k i
theorem zConc_same {G : ZG} {ad : Nat → Nat} {S : List ZSh} {μ μ' : ZMem} (h : zSame S.length μ μ') : zConc G ad S μ = zConc G ad S μ' := by
  apply List.ext_getElem?
  intro k
  simp only [zConc, List.getElem?_mapIdx]
  cases hs : S[k]? with
  | none => rfl
  | some sh =>
    have hk := h k (List.getElem?_eq_some_iff.mp hs).1
    simp only [Option.map_some, Option.some.injEq, Prod.mk.injEq, true_and]
    rcases sh with ⟨ci, fl⟩ | ⟨kd, n, rs⟩
    · simp [zCell, hk]
    · rcases kd with _ | _ | _ | kd <;> simp [zCell, hk]
theorem AW.mem {f : ZCf} {n0 : Nat} {S1 S : List ZSh} {pc : Nat} {L : List (Nat × ZV)} {st : List ZV} {μ μ' : ZMem} {kc ks : Nat} {o : Option ZRes} (h : zSame S.length μ μ') (k : AW f n0 S1 S pc L st μ' kc ks o) : AW f n0 S1 S pc L st μ kc ks o := by
  intro p l e R s m args below meth c D G ad0 adV A Q C r hr hE ad H locs ls hg hP hD hS hl
  rw [zConc_same h] at hP hD
  exact k p l e R s m args below meth c D G ad0 adV A Q C r hr hE ad H locs ls hg hP hD hS hl
section ZI2
variable {f g : ZCf} {n0 : Nat} {S1 S Sg : List ZSh} {pc : Nat} {L : List (Nat × ZV)} {st stk : List ZV} {μ : ZMem} {kc ks : Nat} {x : Option ZRes} {K : Option ZV → ZMem → Option ZRes} {X : String → ZMem → Option ZRes} {pl : List Nat} {av : List ZV} {idx n : Nat}
/-- the caller is no deeper than it may be, the callee's cells fit -/
def zFit (f g : ZCf) (kc ks : Nat) : Prop := zdp g + 1 ≤ zdp f ∧ znL g ≤ 40 ∧ kc + zmc g ≤ zmc f ∧ ks + zms g ≤ zms f
def zCallee (g : ZCf) (n : Nat) : Prop := zhh g = [] ∧ zWd g ∈ zAll ∧ (zy g).cls ≠ "java/lang/invoke/MethodHandle" ∧ (zy g).cls ≠ "java/lang/invoke/VarHandle" ∧ (parseMethodDescriptor (zy g).desc).map (fun d => d.parameters.length) = some n
theorem zGood {w : Cond} (h : w ∈ zAll) : w ∈ zAll ∧ ((w.onTables && w.keeps) = true ∨ ∃ ty, w = .arrayClass ty) := ⟨h, good_of_word (List.mem_filter.mp h).2⟩
theorem zGoodWs {g : ZCf} {l : List Cond} (h : ∀ w ∈ l, w ∈ zAll) (hg : zWd g ∈ zAll) : GoodIn zAll (l ++ zWs g) := by
  intro w hw
  rcases List.mem_append.mp hw with h1 | h1
  · exact zGood (h w h1)
  · rcases List.mem_cons.mp h1 with rfl | h2
    · exact zGood hg
    · exact zGood h2
set_option maxHeartbeats 1000000 in
theorem AW.callV {b0 ci : Nat} {fl : List (Nat × Option Nat)} {T : u_T} {N : Nat} (hd : decode (zcc f) pc = .ok (.invokevirtual idx, 3)) (hg : ∀ l : Launch, l.stackTraces = false → ∀ r, x = some r → ZC l g Sg Sg (zR (some b0) :: av) (fun k => μ (zRho pl k)) r)
    (hs : zSub S pl Sg) (hst : stk = (av.map (zRv pl)).reverse ++ zR (some (zRho pl b0)) :: st) (hcal : zCallee g n) (hn : av.length = n) (hw : ∀ w ∈ [Cond.methodLink (zy f).cls idx (zy g), .instanceMethod (zy g), .selects (zy g).cls (zy g) (zy g), .initialized (zy g).cls], w ∈ zAll)
    (hr : S[zRho pl b0]? = some (.inl (ci, fl))) (hc : vwCl[ci]? = some ((zy g).cls, T, N)) (hfit : zFit f g kc ks) (hrest : (st.map zcat).sum ≤ 8)
    (kr : ∀ v ν, AW f n0 S1 S (pc + 3) L ((v.map (zRv pl)).toList ++ st) (zMg pl μ ν) (kc + zmc g) (ks + zms g) (K v ν))
    (kx : ∀ E ν, X E ν = none ∨ (∃ μ', X E ν = some (.inl E, μ') ∧ zSame S.length μ' (zMg pl μ ν) ∧ S1 = S ∧ zhh f = [])) : AW f n0 S1 S pc L stk μ kc ks (zC x K X) := by
  intro p l e R s m args below meth c D G ad0 adV A Q C r9 hr9 hE ad H locs ls hag hP hD hS hl
  have C0 := C
  obtain ⟨hx, hb, -, hml, hown, hts, hlk, hK, hA, hX, ⟨hRf, hRl, hRc, hRs⟩, htab, hlt, -, -⟩ := C0
  have hX' := hX.ad (ad' := ad) (fun k hk => hag k (Or.inr hk))
  cases hxx : x with
  | none => rw [hxx] at hr9; cases hr9
  | some r =>
    obtain ⟨hhg, hwg, hy1, hy2, hyd⟩ := hcal
    have hws : zWs g = Cond.code (zy g) (zcc g) (znL g) (zrt g) :: zAll := by
      unfold zWs zWd
      rw [hhg]
    obtain ⟨f1, f2, f3, f4⟩ := hfit
    have hM := hg l hlt r hxx D G (fun k => ad (zRho pl k)) adV H.size
    have e1 : stk.map (zTr ad) = (av.map (zTr (fun k => ad (zRho pl k)))).reverse ++ Value.ref (ad (zRho pl b0)) :: st.map (zTr ad) := by
      rw [hst, List.map_append, List.map_reverse, List.map_map, List.map_cons]
      congr 2
      exact List.map_congr_left (fun v _ => zRv_tr ad pl v)
    have hrc := va_recv hK hP hc (zConc_at (G := G) (ad := ad) (μ := μ) hr)
    have hrun := vx_runV (e := e) (below := below) (meth := meth) (locs := locs) (cells := kc) (slots := ks) (g := F0 m pc ls (stk.map (zTr ad))) (rest := st.map (zTr ad)) (As := av.map (zTr (fun k => ad (zRho pl k)))) (C := (zy g).cls) (R := R) ⟨hx, hb, hml, hown, hts⟩ hM
      (cwV n hts (zGoodWs hw hwg) hws rfl rfl ⟨rfl, hy1, hy2, hyd⟩ ⟨Nat.le_trans f1 hRf, by show 8 + (znL g + 11) + 64 * zdp g ≤ R.locals; omega⟩)
      ⟨zBlind, hrc, zPre_of (av := zR (some b0) :: av) hs hP hD hS hA hK hX'⟩ rfl (by rw [List.length_map]; exact hn) hl.1 e1 (lv_room (by rw [List.map_map, show ((fun v : Value => v.category) ∘ zTr ad) = zcat from funext fun v => zcat_ok ad v]; exact hrest)) hd ⟨Nat.le_trans f3 hRc, Nat.le_trans f4 hRs⟩
    refine zAfter hs hP hD hS hA hrun (fun v hv H1 locs1 hP1 hS1 => ?_) (fun E hE1 H1 locs1 q ce hP1 hS1 hq hcv hcl => ?_)
    · have ho : K v r.2 = some r9 := by
        rw [← hr9, hxx]
        obtain ⟨r1, r2⟩ := r
        cases hv
        rfl
      have w := kr v r.2 p l e R s m args below meth c D G ad0 adV A Q C r9 ho hE ad H1 locs1 ls hag hP1 (zD_mem hD) hS1 hl
      have e2 : ((v.map (zRv pl)).toList ++ st).map (zTr ad) = (v.map (zTr (fun k => ad (zRho pl k)))).toList ++ st.map (zTr ad) := by
        rw [List.map_append]
        congr 1
        cases v with
        | none => rfl
        | some v => simp [zRv_tr]
      rw [e2] at w
      exact w
    · have ho : X E r.2 = some r9 := by
        rw [← hr9, hxx]
        obtain ⟨r1, r2⟩ := r
        cases hE1
        rfl
      rcases kx E r.2 with h | ⟨μ', h, hsm, rfl, hh0⟩
      · rw [h] at ho; cases ho
      · rw [h] at ho
        cases ho
        refine (hE.2 E rfl).1 H1 locs1 _ _ ls _ pc q ce hS1 ⟨ad, hag, by rw [zConc_same hsm]; exact hP1, zD_mem hD⟩ f3 f4 (fun x hx => ?_) hq hcv hcl
        rw [htab, hh0] at hx
        cases hx
set_option maxHeartbeats 1000000 in
theorem AW.callS (hd : decode (zcc f) pc = .ok (.invokestatic idx, 3)) (hg : ∀ l : Launch, l.stackTraces = false → ∀ r, x = some r → ZC l g Sg Sg av (fun k => μ (zRho pl k)) r)
    (hs : zSub S pl Sg) (hst : stk = (av.map (zRv pl)).reverse ++ st) (hcal : zCallee g n) (hn : av.length = n) (hw : ∀ w ∈ [Cond.methodLink (zy f).cls idx (zy g), .static (zy g), .initialized (zy g).cls], w ∈ zAll)
    (hfit : zFit f g kc ks) (hrest : (st.map zcat).sum ≤ 8)
    (kr : ∀ v ν, AW f n0 S1 S (pc + 3) L ((v.map (zRv pl)).toList ++ st) (zMg pl μ ν) (kc + zmc g) (ks + zms g) (K v ν))
    (kx : ∀ E ν, X E ν = none ∨ (∃ μ', X E ν = some (.inl E, μ') ∧ zSame S.length μ' (zMg pl μ ν) ∧ S1 = S ∧ zhh f = [])) : AW f n0 S1 S pc L stk μ kc ks (zC x K X) := by
  intro p l e R s m args below meth c D G ad0 adV A Q C r9 hr9 hE ad H locs ls hag hP hD hS hl
  have C0 := C
  obtain ⟨hx, hb, -, hml, hown, hts, hlk, hK, hA, hX, ⟨hRf, hRl, hRc, hRs⟩, htab, hlt, -, -⟩ := C0
  have hX' := hX.ad (ad' := ad) (fun k hk => hag k (Or.inr hk))
  cases hxx : x with
  | none => rw [hxx] at hr9; cases hr9
  | some r =>
    obtain ⟨hhg, hwg, hy1, hy2, hyd⟩ := hcal
    have hws : zWs g = Cond.code (zy g) (zcc g) (znL g) (zrt g) :: zAll := by
      unfold zWs zWd
      rw [hhg]
    obtain ⟨f1, f2, f3, f4⟩ := hfit
    have hM := hg l hlt r hxx D G (fun k => ad (zRho pl k)) adV H.size
    have e1 : stk.map (zTr ad) = (av.map (zTr (fun k => ad (zRho pl k)))).reverse ++ st.map (zTr ad) := by
      rw [hst, List.map_append, List.map_reverse, List.map_map]
      congr 2
      exact List.map_congr_left (fun v _ => zRv_tr ad pl v)
    have hrun := vx_runS (e := e) (below := below) (meth := meth) (locs := locs) (cells := kc) (slots := ks) (g := F0 m pc ls (stk.map (zTr ad))) (rest := st.map (zTr ad)) (As := av.map (zTr (fun k => ad (zRho pl k)))) (R := R) ⟨hx, hb, hml, hown, hts⟩ hM
      (va_cwS n hts (zGoodWs hw hwg) hws rfl rfl ⟨hy1, hy2, hyd⟩ ⟨Nat.le_trans f1 hRf, by show 8 + (znL g + 11) + 64 * zdp g ≤ R.locals; omega⟩)
      ⟨zBlind, zPre_of (av := av) hs hP hD hS hA hK hX'⟩ rfl (by rw [List.length_map]; exact hn) hl.1 e1 (lv_room (by rw [List.map_map, show ((fun v : Value => v.category) ∘ zTr ad) = zcat from funext fun v => zcat_ok ad v]; exact hrest)) hd ⟨Nat.le_trans f3 hRc, Nat.le_trans f4 hRs⟩
    refine zAfter hs hP hD hS hA hrun (fun v hv H1 locs1 hP1 hS1 => ?_) (fun E hE1 H1 locs1 q ce hP1 hS1 hq hcv hcl => ?_)
    · have ho : K v r.2 = some r9 := by
        rw [← hr9, hxx]
        obtain ⟨r1, r2⟩ := r
        cases hv
        rfl
      have w := kr v r.2 p l e R s m args below meth c D G ad0 adV A Q C r9 ho hE ad H1 locs1 ls hag hP1 (zD_mem hD) hS1 hl
      have e2 : ((v.map (zRv pl)).toList ++ st).map (zTr ad) = (v.map (zTr (fun k => ad (zRho pl k)))).toList ++ st.map (zTr ad) := by
        rw [List.map_append]
        congr 1
        cases v with
        | none => rfl
        | some v => simp [zRv_tr]
      rw [e2] at w
      exact w
    · have ho : X E r.2 = some r9 := by
        rw [← hr9, hxx]
        obtain ⟨r1, r2⟩ := r
        cases hE1
        rfl
      rcases kx E r.2 with h | ⟨μ', h, hsm, rfl, hh0⟩
      · rw [h] at ho; cases ho
      · rw [h] at ho
        cases ho
        refine (hE.2 E rfl).1 H1 locs1 _ _ ls _ pc q ce hS1 ⟨ad, hag, by rw [zConc_same hsm]; exact hP1, zD_mem hD⟩ f3 f4 (fun x hx => ?_) hq hcv hcl
        rw [htab, hh0] at hx
        cases hx

theorem zRho_range (n : Nat) : zRho (List.range n) = fun j => j := by
  funext j
  unfold zRho
  rw [List.getD_eq_getElem?_getD]
  by_cases h : j < n
  · rw [List.getElem?_range h]; rfl
  · rw [List.getElem?_eq_none (by simpa using h)]; rfl
theorem zRv_range (n : Nat) : zRv (List.range n) = id := by
  funext v
  rcases v with a | a | a | a | r
  · rfl
  · rfl
  · rfl
  · rfl
  · cases r with
    | none => rfl
    | some k => show zR (some (zRho (List.range n) k)) = _; rw [zRho_range]; rfl
theorem zIx_range (n c : Nat) (h : c < n) : zIx (List.range n) 0 c = some c := by
  cases hx : zIx (List.range n) 0 c with
  | none => exact absurd (List.mem_range.mpr h) (zIx_none hx)
  | some j =>
    obtain ⟨-, hj⟩ := zIx_some hx
    rw [Nat.sub_zero] at hj
    have hl := (List.getElem?_eq_some_iff.mp hj).1
    rw [List.getElem?_range (by simpa using hl)] at hj
    exact hj
theorem zMg_range (n : Nat) (μ ν : ZMem) : zSame n (zMg (List.range n) μ ν) ν := by
  intro k hk i
  unfold zMg
  rw [zIx_range n k hk]
/-- a call in the whole of the caller's world -/
theorem zSub_self {S : List ZSh} (hw : zWfS S.length S = true) (hn : Nat.ble S.length 1000 = true) : zSub S (List.range S.length) S := by
  refine ⟨?_, ?_, hw, by simpa using hn⟩
  · apply List.ext_getElem?
    intro j
    rw [List.getElem?_map, List.getElem?_map]
    by_cases h : j < S.length
    · rw [List.getElem?_range h]
      simp only [Option.map_some]
      rw [List.getElem?_eq_getElem h]
      simp only [Option.map_some, Option.some.injEq]
      have e : ∀ sh : ZSh, zRn (List.range S.length) sh = sh := by
        intro sh
        rcases sh with ⟨ci, fl⟩ | ⟨kd, n, rs⟩
        · show (Sum.inl (ci, fl.map (zRnF (List.range S.length))) : ZSh) = _
          have : zRnF (List.range S.length) = id := by
            funext q
            unfold zRnF
            rw [zRho_range]
            simp
          rw [this, List.map_id]
        · show (Sum.inr (kd, n, rs.map _) : ZSh) = _
          rw [zRho_range]
          simp
      rw [e]
    · rw [List.getElem?_eq_none (by simpa using h), List.getElem?_eq_none (by simpa using h)]
      rfl
  · have key : ∀ (l : List Nat), l.Nodup → va_nd l = true := by
      intro l
      induction l with
      | nil => intro _; rfl
      | cons a t ih =>
        intro h
        rw [List.nodup_cons] at h
        unfold va_nd
        rw [ih h.2, decide_eq_true h.1]
        rfl
    exact key _ List.nodup_range
theorem AW.callVs {b0 ci : Nat} {fl : List (Nat × Option Nat)} {T : u_T} {N : Nat} (hd : decode (zcc f) pc = .ok (.invokevirtual idx, 3)) (hg : ∀ l : Launch, l.stackTraces = false → ∀ r, x = some r → ZC l g S S (zR (some b0) :: av) μ r)
    (hs : zWfS S.length S = true ∧ Nat.ble S.length 1000 = true) (hst : stk = av.reverse ++ zR (some b0) :: st) (hcal : zCallee g n) (hn : av.length = n) (hw : ∀ w ∈ [Cond.methodLink (zy f).cls idx (zy g), .instanceMethod (zy g), .selects (zy g).cls (zy g) (zy g), .initialized (zy g).cls], w ∈ zAll)
    (hr : S[b0]? = some (.inl (ci, fl))) (hc : vwCl[ci]? = some ((zy g).cls, T, N)) (hfit : zFit f g kc ks) (hrest : (st.map zcat).sum ≤ 8)
    (kr : ∀ v ν, AW f n0 S1 S (pc + 3) L (v.toList ++ st) ν (kc + zmc g) (ks + zms g) (K v ν))
    (kx : ∀ E ν, X E ν = none ∨ (X E ν = some (.inl E, ν) ∧ S1 = S ∧ zhh f = [])) : AW f n0 S1 S pc L stk μ kc ks (zC x K X) := by
  have h9 := zRho_range S.length
  refine AW.callV (g := g) (pl := List.range S.length) (Sg := S) (av := av) (b0 := b0) (fl := fl) hd ?_ (zSub_self hs.1 hs.2) ?_ hcal hn hw ?_ hc hfit hrest (fun v ν => ?_) (fun E ν => ?_)
  · rw [h9]; exact hg
  · rw [zRv_range, h9, List.map_id]; exact hst
  · rw [h9]; exact hr
  · rw [zRv_range]
    have := AW.mem (zMg_range S.length μ ν) (kr v ν)
    simpa using this
  · rcases kx E ν with h | ⟨h1, h2, h3⟩
    · exact Or.inl h
    · exact Or.inr ⟨ν, h1, fun k hk i => (zMg_range S.length μ ν k hk i).symm, h2, h3⟩
/-- a static method that needs no world -/
theorem AW.callP (hd : decode (zcc f) pc = .ok (.invokestatic idx, 3)) (hg : ∀ l : Launch, l.stackTraces = false → ∀ r, x = some r → ZC l g [] [] av μ r)
    (hst : stk = av.reverse ++ st) (hcal : zCallee g n) (hn : av.length = n) (hw : ∀ w ∈ [Cond.methodLink (zy f).cls idx (zy g), .static (zy g), .initialized (zy g).cls], w ∈ zAll)
    (hfit : zFit f g kc ks) (hrest : (st.map zcat).sum ≤ 8)
    (kr : ∀ v ν, AW f n0 S1 S (pc + 3) L (v.toList ++ st) μ (kc + zmc g) (ks + zms g) (K v ν)) : AW f n0 S1 S pc L stk μ kc ks (zC x K zX0) := by
  have e : zRv [] = id := by
    funext v
    rcases v with a | a | a | a | r
    · rfl
    · rfl
    · rfl
    · rfl
    · cases r <;> rfl
  refine AW.callS (g := g) (pl := []) (Sg := []) (av := av) hd hg ⟨rfl, rfl, rfl, rfl⟩ (by rw [e, List.map_id]; exact hst) hcal hn hw hfit hrest (fun v ν => ?_) (fun E ν => Or.inl rfl)
  rw [e, Option.map_id]
  exact kr v ν
theorem AW.kI {K : Int → ZMem → Option ZRes} {ν μ : ZMem} (h : ∀ a, AW f n0 S1 S pc L (zI a :: st) μ kc ks (K a ν)) : ∀ v : Option ZV, AW f n0 S1 S pc L (v.toList ++ st) μ kc ks (zkI K v ν) := by
  intro v
  rcases v with _ | a | a | a | a | a
  · exact AW.noth
  · exact h a
  all_goals exact AW.noth
theorem AW.kJ {K : Int → ZMem → Option ZRes} {ν μ : ZMem} (h : ∀ a, AW f n0 S1 S pc L (zJ a :: st) μ kc ks (K a ν)) : ∀ v : Option ZV, AW f n0 S1 S pc L (v.toList ++ st) μ kc ks (zkJ K v ν) := by
  intro v
  rcases v with _ | a | a | a | a | a
  · exact AW.noth
  · exact AW.noth
  · exact h a
  all_goals exact AW.noth
theorem AW.kD {K : UInt64 → ZMem → Option ZRes} {ν μ : ZMem} (h : ∀ a, AW f n0 S1 S pc L (zD a :: st) μ kc ks (K a ν)) : ∀ v : Option ZV, AW f n0 S1 S pc L (v.toList ++ st) μ kc ks (zkD K v ν) := by
  intro v
  rcases v with _ | a | a | a | a | a
  · exact AW.noth
  · exact AW.noth
  · exact AW.noth
  · exact AW.noth
  · exact h a
  · exact AW.noth
theorem AW.kV {K : ZMem → Option ZRes} {ν μ : ZMem} (h : AW f n0 S1 S pc L st μ kc ks (K ν)) : ∀ v : Option ZV, AW f n0 S1 S pc L (v.toList ++ st) μ kc ks (zkV K v ν) := by
  intro v
  rcases v with _ | a
  · exact h
  · exact AW.noth
theorem AW.kR {K : Nat → ZMem → Option ZRes} {ν μ : ZMem} (h : ∀ a, AW f n0 S1 S pc L (zR (some a) :: st) μ kc ks (K a ν)) : ∀ v : Option ZV, AW f n0 S1 S pc L (v.toList ++ st) μ kc ks (zkR K v ν) := by
  intro v
  rcases v with _ | a | a | a | a | a
  · exact AW.noth
  · exact AW.noth
  · exact AW.noth
  · exact AW.noth
  · exact AW.noth
  · cases a with
    | none => exact AW.noth
    | some a => exact h a
theorem AW.rI {K : Int → ZMem → Option ZRes} {ν μ : ZMem} (h : ∀ a, AW f n0 S1 S pc L (zI a :: st) μ kc ks (K a ν)) : ∀ v : Option ZV, AW f n0 S1 S pc L ((v.map (zRv pl)).toList ++ st) μ kc ks (zkI K v ν) := by
  intro v
  rcases v with _ | a | a | a | a | a
  · exact AW.noth
  · exact h a
  all_goals exact AW.noth
theorem AW.rJ {K : Int → ZMem → Option ZRes} {ν μ : ZMem} (h : ∀ a, AW f n0 S1 S pc L (zJ a :: st) μ kc ks (K a ν)) : ∀ v : Option ZV, AW f n0 S1 S pc L ((v.map (zRv pl)).toList ++ st) μ kc ks (zkJ K v ν) := by
  intro v
  rcases v with _ | a | a | a | a | a
  · exact AW.noth
  · exact AW.noth
  · exact h a
  all_goals exact AW.noth
theorem AW.rD {K : UInt64 → ZMem → Option ZRes} {ν μ : ZMem} (h : ∀ a, AW f n0 S1 S pc L (zD a :: st) μ kc ks (K a ν)) : ∀ v : Option ZV, AW f n0 S1 S pc L ((v.map (zRv pl)).toList ++ st) μ kc ks (zkD K v ν) := by
  intro v
  rcases v with _ | a | a | a | a | a
  · exact AW.noth
  · exact AW.noth
  · exact AW.noth
  · exact AW.noth
  · exact h a
  · exact AW.noth
theorem AW.rV {K : ZMem → Option ZRes} {ν μ : ZMem} (h : AW f n0 S1 S pc L st μ kc ks (K ν)) : ∀ v : Option ZV, AW f n0 S1 S pc L ((v.map (zRv pl)).toList ++ st) μ kc ks (zkV K v ν) := by
  intro v
  rcases v with _ | a
  · exact h
  · exact AW.noth
end ZI2
