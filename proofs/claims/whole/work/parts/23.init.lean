/-! ===== constructors: contracts, calls; the caller's world grows by what the callee made ===== -/
def zExt (S : List ZSh) (pl : List Nat) (Sg S1g : List ZSh) (pl' : List Nat) (S' : List ZSh) : Prop :=
  zSub S pl Sg ∧ zSub S' pl' S1g ∧ zWfS S.length S = true ∧ pl' = pl ++ (List.range (S1g.length - Sg.length)).map (fun i => S.length + i) ∧ Sg.length ≤ S1g.length ∧ S'.length = S.length + (S1g.length - Sg.length) ∧ (List.range S.length).all (fun k => pl.contains k || decide (S'[k]? = S[k]?)) = true ∧ Nat.ble S'.length 1000 = true
def zAd3 (ad ad2 : Nat → Nat) (n ng : Nat) : Nat → Nat := fun k => if k < n ∨ zSB ≤ k then ad k else ad2 (k - n + ng)
theorem zIx_of {pl : List Nat} (hn : va_nd pl = true) {j k : Nat} (h : pl[j]? = some k) : zIx pl 0 k = some j := by
  cases hx : zIx pl 0 k with
  | none => exact absurd (List.mem_of_getElem? h) (zIx_none hx)
  | some i =>
    obtain ⟨-, hi⟩ := zIx_some hx
    rw [Nat.sub_zero] at hi
    rw [va_nd_inj pl hn i j k hi h]
set_option maxHeartbeats 1000000 in
theorem zJoinI {D : va_G} {G : ZG} {ad ad2 : Nat → Nat} {S Sg S1g S' : List ZSh} {pl pl' : List Nat} {μ ν : ZMem} {A : Nat → Prop} {H H1 : Heap} (hx : zExt S pl Sg S1g pl' S') (hP : va_P D vwCl (zConc G ad S μ) H) (hD : va_D A (zConc G ad S μ))
    (hk : ∀ q : Nat, q < H.size → ¬ va_A (zConc G (fun k => ad (zRho pl k)) Sg (fun k => μ (zRho pl k))) H.size q → H1[q]? = H[q]?) (ha2 : zAgr Sg.length (fun k => ad (zRho pl k)) ad2) (hP1 : va_P D vwCl (zConc G ad2 S1g ν) H1) (hD1 : va_D (va_A (zConc G (fun k => ad (zRho pl k)) Sg (fun k => μ (zRho pl k))) H.size) (zConc G ad2 S1g ν))
    (hF : ∀ q, va_A (zConc G (fun k => ad (zRho pl k)) Sg (fun k => μ (zRho pl k))) H.size q → A q) :
    va_P D vwCl (zConc G (zAd3 ad ad2 S.length Sg.length) S' (zMg pl' μ ν)) H1 ∧ va_D A (zConc G (zAd3 ad ad2 S.length Sg.length) S' (zMg pl' μ ν)) := by
  obtain ⟨hs, hs', hwS, hpl, hle, hlen, hkeep, hb⟩ := hx
  have hlS' : S'.length ≤ 1000 := Nat.le_of_ble_eq_true hb
  have hSB : zSB = 1000000 := rfl
  have hlp : pl.length = Sg.length := hs.len
  -- where a callee's cell lies in the caller's new world
  have rho : ∀ j, j < S1g.length → (j < Sg.length ∧ zRho pl' j = zRho pl j ∧ zRho pl j < S.length) ∨ (Sg.length ≤ j ∧ zRho pl' j = S.length + (j - Sg.length)) := by
    intro j hj
    by_cases h : j < Sg.length
    · refine Or.inl ⟨h, ?_, ?_⟩
      · unfold zRho
        rw [hpl, List.getD_eq_getElem?_getD, List.getD_eq_getElem?_getD, List.getElem?_append_left (by omega)]
      · obtain ⟨sg, hsg⟩ : ∃ sg, Sg[j]? = some sg := ⟨_, List.getElem?_eq_getElem h⟩
        exact (List.getElem?_eq_some_iff.mp (hs.at hsg).2).1
    · refine Or.inr ⟨by omega, ?_⟩
      unfold zRho
      rw [hpl, List.getD_eq_getElem?_getD, List.getElem?_append_right (by omega), List.getElem?_map, List.getElem?_range (by omega), hlp]
      rfl
  have f1 : ∀ j, j < S1g.length ∨ zSB ≤ j → zAd3 ad ad2 S.length Sg.length (zRho pl' j) = ad2 j := by
    intro j hj
    by_cases h1 : j < S1g.length
    · rcases rho j h1 with ⟨g1, g2, g3⟩ | ⟨g1, g2⟩
      · rw [g2]
        unfold zAd3
        rw [if_pos (Or.inl g3)]
        exact (ha2 j (Or.inl g1)).symm
      · rw [g2]
        unfold zAd3
        rw [if_neg (by omega)]
        congr 1
        omega
    · have h2 : zSB ≤ j := by omega
      have hl' : pl'.length ≤ 1000 := Nat.le_of_ble_eq_true hs'.2.2.2
      have hl : pl.length ≤ 1000 := Nat.le_of_ble_eq_true hs.2.2.2
      have e1 : zRho pl' j = j := by unfold zRho; rw [List.getD_eq_getElem?_getD, List.getElem?_eq_none (by omega)]; rfl
      have e2 : zRho pl j = j := by unfold zRho; rw [List.getD_eq_getElem?_getD, List.getElem?_eq_none (by omega)]; rfl
      rw [e1]
      unfold zAd3
      rw [if_pos (Or.inr h2), ha2 j (Or.inr h2)]
      show ad j = ad (zRho pl j)
      rw [e2]
  have hag : zAgr S1g.length ad2 (fun k => zAd3 ad ad2 S.length Sg.length (zRho pl' k)) := fun k hk => f1 k hk
  -- the callee's cells among the caller's
  have cell1 : ∀ {j k : Nat}, pl'[j]? = some k → ∀ q, (zConc G (zAd3 ad ad2 S.length Sg.length) S' (zMg pl' μ ν))[k]? = some q → (zConc G ad2 S1g ν)[j]? = some q := by
    intro j k hj q hq
    have hc := hs'.conc G (zAd3 ad ad2 S.length Sg.length) (zMg pl' μ ν)
    have h1 : (pl'.map (fun i => (zConc G (zAd3 ad ad2 S.length Sg.length) S' (zMg pl' μ ν))[i]?))[j]? = some (some q) := by rw [List.getElem?_map, hj]; simp [hq]
    rw [hc, List.getElem?_map, zConc_agr hag hs'.2.2.1 (Nat.le_refl _)] at h1
    have e : zConc G ad2 S1g (fun k => zMg pl' μ ν (zRho pl' k)) = zConc G ad2 S1g ν := zConc_same (fun k hk i => by
      have hkl : pl'[k]? = some (zRho pl' k) := by
        obtain ⟨sg, hsg⟩ : ∃ sg, S1g[k]? = some sg := ⟨_, List.getElem?_eq_getElem hk⟩
        exact (hs'.at hsg).1
      unfold zMg
      rw [zIx_of hs'.2.1 hkl])
    rw [e] at h1
    cases hz : (zConc G ad2 S1g ν)[j]? with
    | none => rw [hz] at h1; cases h1
    | some z => rw [hz] at h1; exact Option.some.inj h1
  have cell2 : ∀ {k : Nat}, zIx pl' 0 k = none → ∀ q, (zConc G (zAd3 ad ad2 S.length Sg.length) S' (zMg pl' μ ν))[k]? = some q → (zConc G ad S μ)[k]? = some q ∧ k ∉ pl ∧ k < S.length := by
    intro k hx0 q hq
    have hn := zIx_none hx0
    have hkl : k < S'.length := by have := (List.getElem?_eq_some_iff.mp hq).1; rwa [zConc_len] at this
    have hkS : k < S.length := by
      apply Nat.lt_of_not_le
      intro hge
      apply hn
      rw [hpl]
      exact List.mem_append_right _ (List.mem_map.mpr ⟨k - S.length, List.mem_range.mpr (by omega), by omega⟩)
    have hnp : k ∉ pl := fun h => hn (by rw [hpl]; exact List.mem_append_left _ h)
    have hsame : S'[k]? = S[k]? := by
      have h1 := List.all_eq_true.mp hkeep k (List.mem_range.mpr hkS)
      rcases Bool.or_eq_true_iff.mp h1 with h2 | h2
      · exact absurd (List.contains_iff_mem.mp h2) hnp
      · exact of_decide_eq_true h2
    obtain ⟨sh, hsh⟩ : ∃ sh, S[k]? = some sh := ⟨_, List.getElem?_eq_getElem hkS⟩
    refine ⟨?_, hnp, hkS⟩
    rw [zConc_at (hsame.trans hsh)] at hq
    have hagS : zAgr S.length ad (zAd3 ad ad2 S.length Sg.length) := fun i hi => by unfold zAd3; rw [if_pos hi]
    have e1 : zConc G (zAd3 ad ad2 S.length Sg.length) S μ = zConc G ad S μ := zConc_agr hagS hwS (Nat.le_refl _)
    rw [← e1, zConc_at hsh, ← hq]
    congr 2
    have hm : ∀ i, zMg pl' μ ν k i = μ k i := fun i => by unfold zMg; rw [hx0]
    rcases sh with ⟨ci, fl⟩ | ⟨kd, n, rs⟩
    · simp [zCell, hm]
    · rcases kd with _ | _ | _ | kd <;> simp [zCell, hm]
  refine ⟨fun k q hq => ?_, fun i j x y hi hj hxy => ?_, fun k q hq => ?_⟩
  · cases h0 : zIx pl' 0 k with
    | some j =>
      obtain ⟨-, hj⟩ := zIx_some h0
      rw [Nat.sub_zero] at hj
      exact hP1 j q (cell1 hj q hq)
    | none =>
      obtain ⟨h1, h2, h3⟩ := cell2 h0 q hq
      have h4 := hP k q h1
      refine h4.kept (hk _ h4.lt (fun ha => ?_))
      rcases ha with ⟨j, e, hj⟩ | hge
      · have hjl : j < Sg.length := by have := (List.getElem?_eq_some_iff.mp hj).1; rwa [zConc_len] at this
        obtain ⟨sg, hsg⟩ : ∃ sg, Sg[j]? = some sg := ⟨_, List.getElem?_eq_getElem hjl⟩
        rw [zConc_at hsg] at hj
        have e3 : ad (zRho pl j) = q.1 := congrArg Prod.fst (Option.some.inj hj)
        obtain ⟨g1, g2⟩ := hs.at hsg
        have e4 := hD.1 _ _ _ _ (zConc_at (G := G) (ad := ad) (μ := μ) g2) h1 e3
        rw [e4] at g1
        exact h2 (List.mem_of_getElem? g1)
      · exact absurd hge (Nat.not_le.mpr h4.lt)
  · have mixed : ∀ {i j j2 : Nat} {x y : Nat × va_E}, zIx pl' 0 i = none → pl'[j2]? = some j → (zConc G (zAd3 ad ad2 S.length Sg.length) S' (zMg pl' μ ν))[i]? = some x → (zConc G (zAd3 ad ad2 S.length Sg.length) S' (zMg pl' μ ν))[j]? = some y → x.1 = y.1 → False := by
      intro i j j2 x y h0 hj2 hi hj hxy
      obtain ⟨h1, h2, h3⟩ := cell2 h0 x hi
      have h5 := hD1.2 _ _ (cell1 hj2 y hj)
      rw [← hxy] at h5
      rcases h5 with ⟨z, e, hz⟩ | hge
      · have hzl : z < Sg.length := by have := (List.getElem?_eq_some_iff.mp hz).1; rwa [zConc_len] at this
        obtain ⟨sg, hsg⟩ : ∃ sg, Sg[z]? = some sg := ⟨_, List.getElem?_eq_getElem hzl⟩
        rw [zConc_at hsg] at hz
        have e3 : ad (zRho pl z) = x.1 := congrArg Prod.fst (Option.some.inj hz)
        obtain ⟨g1, g2⟩ := hs.at hsg
        have e4 := hD.1 _ _ _ _ (zConc_at (G := G) (ad := ad) (μ := μ) g2) h1 e3
        rw [e4] at g1
        exact h2 (List.mem_of_getElem? g1)
      · exact absurd hge (Nat.not_le.mpr (hP i x h1).lt)
    cases h0 : zIx pl' 0 i with
    | none =>
      cases h9 : zIx pl' 0 j with
      | none => exact hD.1 i j x y (cell2 h0 x hi).1 (cell2 h9 y hj).1 hxy
      | some j2 =>
        obtain ⟨-, hj2⟩ := zIx_some h9
        rw [Nat.sub_zero] at hj2
        exact (mixed h0 hj2 hi hj hxy).elim
    | some i2 =>
      obtain ⟨-, hi2⟩ := zIx_some h0
      rw [Nat.sub_zero] at hi2
      cases h9 : zIx pl' 0 j with
      | none => exact (mixed h9 hi2 hj hi hxy.symm).elim
      | some j2 =>
        obtain ⟨-, hj2⟩ := zIx_some h9
        rw [Nat.sub_zero] at hj2
        have e := hD1.1 _ _ _ _ (cell1 hi2 x hi) (cell1 hj2 y hj) hxy
        rw [e] at hi2
        exact Option.some.inj (hi2.symm.trans hj2)
  · cases h0 : zIx pl' 0 k with
    | some j =>
      obtain ⟨-, hj⟩ := zIx_some h0
      rw [Nat.sub_zero] at hj
      exact hF _ (hD1.2 _ _ (cell1 hj q hq))
    | none => exact hD.2 k q (cell2 h0 q hq).1
/-- a constructor's contract -/
def ZN (l : Launch) (f : ZCf) (S S1 : List ZSh) (av : List ZV) (μ : ZMem) (r : ZRes) : Prop := ∀ (D : va_G) (G : ZG) (ad adV : Nat → Nat) (sz : Nat),
  Met l (zy f) (zWs f) (zRoom f) (zPre D G ad adV S μ sz av) (zQc D G ad S.length (va_A (zConc G ad S μ) sz) S1 r) (zmc f) (zms f) (va_A (zConc G ad S μ) sz)
set_option maxHeartbeats 4000000 in
theorem ZN.of {l : Launch} {f : ZCf} {S S1 : List ZSh} {av : List ZV} {μ ν : ZMem} {o : Option ZRes} (hl : l.stackTraces = false) (hy : plainName (zy f).cls = true) (hh : zhh f = []) (hsc : zsc f = none) (hft : ∀ q ∈ zft f, zFok (zy f).cls q) (hn : (av.map zcat).sum ≤ znL f) (hr : o = some (.inr none, ν))
    (h : AW f S.length S1 S 0 (zArgs 0 av) [] μ 0 0 o) : ZN l f S S1 av μ (.inr none, ν) := by
  intro D G ad adV sz
  have hws : zWs f = Cond.code (zy f) (zcc f) (znL f) (zrt f) :: zAll := by
    unfold zWs zWd
    rw [hh]
  refine Met.ofW (cc := zcc f) (maxL := znL f) (ret := zrt f) (ws' := zAll) hy hws ?_
  intro p e s m args below meth c s₁ B hml hv
  obtain ⟨rfl, hsz, hP, hK, hD0, hX⟩ := hv
  subst hsz
  have hx := B.exec
  have hts := atoms_spec (ws := zWs f) B.pre
  have hname : meth.name = (zy f).name := (name_of_methodNamed B.named B.method).1
  have htl : c.exceptionTable.toList = tableOf (zhh f) := by
    rw [hh]
    obtain ⟨meth9, c9, h1, h2, -, -, -, -, h7, -⟩ := Cond.code_spec B.named (hts _ (by rw [hws]; exact List.mem_cons_self))
    cases Option.some.inj (h1.symm.trans B.method)
    cases Option.some.inj (h2.symm.trans (Stand.of_body B).code)
    rw [Array.isEmpty_iff.mp h7]
    rfl
  have hD := hD0.self (sz := s.heap.size)
  have hC : zCx f p l (headSpec (zWs f) (zRoom f)).room s m (av.map (zTr ad)).toArray meth c D G ad adV (va_A (zConc G ad S μ) s.heap.size) :=
    ⟨B.exec, B.bytes, B.returns, hml, findClass_of_methodNamed B.named, fun w hw => hts w (List.mem_cons_of_mem _ hw), B.notSynchronized, hK, fun q hq => Or.inr hq, hX, ⟨Nat.le_refl _, Nat.le_refl _, Nat.le_refl _, Nat.le_refl _⟩, htl, hl, ⟨hname, fun q hq => by rw [hsc] at hq; cases hq⟩, hft⟩
  rw [lg_entry_eq]
  have hls := lv_entry (av.map (zTr ad)) (n := znL f) (by rw [zsl_len]; exact hn)
  rw [← zArgs_map] at hls
  refine h p l e _ s m _ below meth c D G ad adV _ _ hC _ hr ⟨fun v hv H locs kc ks ls pc i hS hPo hc hs hd hro => ?_, fun E hE => by cases hE⟩ ad s.heap [] _ (fun _ _ => rfl) hP hD va_S.rf hls
  cases hv
  have hq : ∀ t : State, t.heap = H → s.WarmedH t.vm → zQc D G ad S.length (va_A (zConc G ad S μ) s.heap.size) S1 (.inr none, ν) (av.map (zTr ad)).toArray s (.returned none) t := fun t ht _ => ⟨⟨none, rfl, rfl, by rw [ht]; exact hPo⟩, hS.F ht⟩
  refine W.widen hc hs ?_
  obtain ⟨rfl, h2⟩ := hro
  have hlk := B.notSynchronized
  exact W.vret hx B.bytes (B.returns.trans h2) hq hS.2.2 hd
section ZI3
variable {f g : ZCf} {n0 : Nat} {S1 S S' Sg S1g : List ZSh} {pc : Nat} {L : List (Nat × ZV)} {st stk : List ZV} {μ : ZMem} {kc ks : Nat} {x : Option ZRes} {pl pl' : List Nat} {av : List ZV} {idx n b0 : Nat} {K : ZMem → Option ZRes}
/-- what a constructor comes to: the caller goes on with the memory grown -/
def zCn (pl' : List Nat) (μ : ZMem) (x : Option ZRes) (K : ZMem → Option ZRes) : Option ZRes := match x with
  | some (.inr none, ν) => K (zMg pl' μ ν)
  | _ => none
/-- the two kinds of link to a constructor -/
def zLnk (f g : ZCf) (idx : Nat) : Prop := Cond.methodLink (zy f).cls idx (zy g) ∈ zAll ∨ Cond.methodLinkNest (zy f).cls idx (zy g) "WeirLedger" ∈ zOther
set_option maxHeartbeats 1000000 in
theorem AW.init (hd : decode (zcc f) pc = .ok (.invokespecial idx, 3)) (hg : ∀ l : Launch, l.stackTraces = false → ∀ ν, x = some (.inr none, ν) → ZN l g Sg S1g (zR (some b0) :: av) (zVw pl μ) (.inr none, ν))
    (hx : zExt S pl Sg S1g pl' S') (hst : stk = (av.map (zRv pl)).reverse ++ zR (some (zRho pl b0)) :: st) (hcal : zCallee g n) (hn : av.length = n) (hl9 : zLnk f g idx) (hin : Cond.instanceMethod (zy g) ∈ zAll) (hini : Cond.initialized (zy g).cls ∈ zAll) (hy9 : (zy g).name = "<init>") (hrt : zrt g = none)
    (hfit : zFit f g kc ks) (hrest : (st.map zcat).sum ≤ 8) (hwf : zWfA n0 S L st = true)
    (kk : ∀ μ1, AW f n0 S1 S' (pc + 3) L st μ1 (kc + zmc g) (ks + zms g) (K μ1)) : AW f n0 S1 S pc L stk μ kc ks (zCn pl' μ x K) := by
  intro p l e R s m args below meth c D G ad0 adV A Q C r9 hr9 hE ad H locs ls hag hP hD hS hl
  have C0 := C
  obtain ⟨hx9, hb, -, hml, hown, hts, hlk, hK, hA, hX, ⟨hRf, hRl, hRc, hRs⟩, htab, hlt, -, -⟩ := C0
  have hX' := hX.ad (ad' := ad) (fun k hk => hag k (Or.inr hk))
  have hs := hx.1
  obtain ⟨w1, w2, w3, w4, w5⟩ := zWfA.of hwf
  cases hxx : x with
  | none => rw [hxx] at hr9; cases hr9
  | some r =>
    obtain ⟨r1, ν⟩ := r
    rcases r1 with E | v
    · rw [hxx] at hr9; cases hr9
    · cases v with
      | some v => rw [hxx] at hr9; cases hr9
      | none =>
        rw [hxx] at hr9
        have hr9 : K (zMg pl' μ ν) = some r9 := hr9
        obtain ⟨hhg, hwg, hy1, hy2, hyd⟩ := hcal
        have hws : zWs g = Cond.code (zy g) (zcc g) (znL g) none :: zAll := by
          unfold zWs zWd
          rw [hhg, hrt]
        obtain ⟨f1, f2, f3, f4⟩ := hfit
        have hM := hg l hlt ν hxx D G (fun k => ad (zRho pl k)) adV H.size
        have e1 : stk.map (zTr ad) = (av.map (zTr (fun k => ad (zRho pl k)))).reverse ++ Value.ref (ad (zRho pl b0)) :: st.map (zTr ad) := by
          rw [hst, List.map_append, List.map_reverse, List.map_map, List.map_cons]
          congr 2
          exact List.map_congr_left (fun v _ => zRv_tr ad pl v)
        have hR : (zRoom g).frames + 1 ≤ R.frames ∧ 8 + (znL g + 11) + (zRoom g).locals ≤ R.locals := ⟨Nat.le_trans f1 hRf, by show 8 + (znL g + 11) + 64 * zdp g ≤ R.locals; omega⟩
        have hG : GoodIn zAll (zWs g) := fun w hw => by
          rcases List.mem_cons.mp hw with rfl | h2
          · exact zGood hwg
          · exact zGood h2
        have hPS : PreS s H (zPre D G (fun k => ad (zRho pl k)) adV Sg (zVw pl μ) H.size (zR (some b0) :: av)) (Value.ref (ad (zRho pl b0)) :: av.map (zTr (fun k => ad (zRho pl k)))) := ⟨zBlind, zPre_of (av := zR (some b0) :: av) hs hP hD hS hA hK hX'⟩
        have hroom : 2 * (F0 m pc ls (stk.map (zTr ad))).monitorRoom + ((st.map (zTr ad)).map fun v => v.category).sum ≤ 8 := lv_room (by rw [zsum_cat]; exact hrest)
        have hrun : va_Run p l e R s m args below meth c H locs kc ks (zmc g) (zms g) (F0 m pc ls (stk.map (zTr ad))) (st.map (zTr ad)) (zQc D G (fun k => ad (zRho pl k)) Sg.length (va_A (zConc G (fun k => ad (zRho pl k)) Sg (zVw pl μ)) H.size) S1g (.inr none, ν) (Value.ref (ad (zRho pl b0)) :: av.map (zTr (fun k => ad (zRho pl k)))).toArray) (va_A (zConc G (fun k => ad (zRho pl k)) Sg (zVw pl μ)) H.size) := by
          rcases hl9 with hl9 | hl9
          · exact va_runI (Ts := zAll) ⟨hx9, hb, hml, hown, hts⟩ hM (cwI n hts hG hws rfl rfl (hts _ hini) (hts _ hl9) (hts _ hin) hy9 ⟨hy1, hy2, hyd⟩ hR) hPS rfl (by rw [List.length_map]; exact hn) hl.1 e1 hroom hd ⟨Nat.le_trans f3 hRc, Nat.le_trans f4 hRs⟩
          · exact va_runIN (Ts := zAll) ⟨hx9, hb, hml, hown, hts⟩ hM ⟨va_cnB n hts hG hws rfl rfl (hX'.2.2.2.2.2.2.2.1 _ hl9) (hts _ hini) ⟨hy1, hy2, hyd⟩ hR, hy9, hts _ hin⟩ hPS rfl (by rw [List.length_map]; exact hn) hl.1 e1 hroom hd ⟨Nat.le_trans f3 hRc, Nat.le_trans f4 hRs⟩
        have hF := va_free (wc := zConc G (fun k => ad (zRho pl k)) Sg (fun k => μ (zRho pl k))) hD hS hA pl (hs.conc G ad μ)
        intro T hT XX
        obtain ⟨v, st₀, t, T', Lx, h0, X', hL, e1', e2, ⟨⟨v', hv', ho, hPo⟩, hFr⟩, stp⟩ := hrun T hT XX
        cases hv'
        cases ho
        obtain ⟨k1, k2, k3⟩ := vx_keep h0 e1' hS (fun q _ h => hF q h) hF hL hFr
        rw [← e1'] at hPo
        obtain ⟨ad2, ha2, hp2, hd2⟩ := hPo
        obtain ⟨j1, j2⟩ := zJoinI hx hP hD k2 ha2 hp2 hd2 hF
        have hag3 : zAgr S.length ad (zAd3 ad ad2 S.length Sg.length) := fun i hi => by unfold zAd3; rw [if_pos hi]
        have g9 := kk (zMg pl' μ ν) p l e R s m args below meth c D G ad0 adV A Q C r9 hr9 hE (zAd3 ad ad2 S.length Sg.length) T'.heap (locs ++ Lx) ls (hag.trans hag3 w2) j1 j2 k3 (by rw [zLs_agr hag3 w4]; exact hl)
        rw [zSt_agr hag3 w5] at g9
        obtain ⟨t2, a1, b1⟩ := g9 T' rfl X'
        exact ⟨t2, stp t2 a1, b1⟩
end ZI3
