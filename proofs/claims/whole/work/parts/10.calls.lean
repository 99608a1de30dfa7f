/-! ===== the rules of the walk: calls; the callee's world is a part of the caller's, by places ===== -/
def zRho (pl : List Nat) (j : Nat) : Nat := pl.getD j j
def zRnF (pl : List Nat) (q : Nat × Option Nat) : Nat × Option Nat := (q.1, q.2.map (zRho pl))
def zRn (pl : List Nat) : ZSh → ZSh
  | .inl (ci, fl) => .inl (ci, fl.map (zRnF pl))
  | .inr (k, n, rs) => .inr (k, n, rs.map (fun r => r.map (zRho pl)))
def zRv (pl : List Nat) : ZV → ZV
  | .inr (.inr (.inr (.inr r))) => zR (r.map (zRho pl))
  | v => v
theorem zRv_tr (ad : Nat → Nat) (pl : List Nat) (v : ZV) : zTr ad (zRv pl v) = zTr (fun j => ad (zRho pl j)) v := by
  rcases v with a | a | a | a | r
  · rfl
  · rfl
  · rfl
  · rfl
  · cases r <;> rfl
theorem zFv_rn (ad : Nat → Nat) (pl : List Nat) (x : Int) (q : Nat × Option Nat) : zFv ad x (zRnF pl q) = zFv (fun j => ad (zRho pl j)) x q := by
  obtain ⟨n, r⟩ := q
  rcases n with _ | _ | _ | n
  · rfl
  · rfl
  · cases r <;> rfl
  · rfl
theorem zgetD_map (ad : Nat → Nat) (pl : List Nat) (rs : List (Option Nat)) (j : Nat) : ((rs.map (fun r => r.map (zRho pl))).getD j none).map ad = (rs.getD j none).map (fun k => ad (zRho pl k)) := by
  rw [List.getD_eq_getElem?_getD, List.getD_eq_getElem?_getD, List.getElem?_map]
  cases h : rs[j]? with
  | none => rfl
  | some r => cases r <;> rfl
theorem zCell_rn (G : ZG) (ad : Nat → Nat) (pl : List Nat) (μ : ZMem) (j : Nat) (sh : ZSh) : zCell G ad μ (zRho pl j) (zRn pl sh) = zCell G (fun k => ad (zRho pl k)) (fun k => μ (zRho pl k)) j sh := by
  rcases sh with ⟨ci, fl⟩ | ⟨kd, n, rs⟩
  · show (Sum.inr (ci, (fl.map (zRnF pl)).mapIdx _) : va_E) = Sum.inr (ci, fl.mapIdx _)
    congr 2
    apply List.ext_getElem?
    intro i
    rw [List.getElem?_mapIdx, List.getElem?_mapIdx, List.getElem?_map]
    cases fl[i]? with
    | none => rfl
    | some q => simp [zFv_rn]
  · have e : (fun j => ((rs.map (fun r => r.map (zRho pl))).getD j none).map ad) = (fun j => (rs.getD j none).map (fun k => ad (zRho pl k))) := funext (zgetD_map ad pl rs)
    rcases kd with _ | _ | _ | kd
    · rfl
    · rfl
    · show (Sum.inl (G.2.2.1, n, Sum.inr (Sum.inr (Sum.inr (Sum.inr (fun j => ((rs.map (fun r => r.map (zRho pl))).getD j none).map ad))))) : va_E) = _
      rw [e]
      rfl
    · show (Sum.inl (G.2.2.2, n, Sum.inr (Sum.inr (Sum.inr (Sum.inr (fun j => ((rs.map (fun r => r.map (zRho pl))).getD j none).map ad))))) : va_E) = _
      rw [e]
      rfl
/-- a shape's references lie below n, or are constants -/
def zWfS (n : Nat) (S : List ZSh) : Bool := S.all fun sh => match sh with
  | .inl (_, fl) => fl.all (fun q => match q.2 with | none => true | some r => decide (r < n ∨ zSB ≤ r))
  | .inr (_, _, rs) => rs.all (fun q => match q with | none => true | some r => decide (r < n ∨ zSB ≤ r))
theorem zRf_agr {ad0 ad : Nat → Nat} {n : Nat} (h : zAgr n ad0 ad) {r : Option Nat} (hr : (match r with | none => true | some r => decide (r < n ∨ zSB ≤ r)) = true) : r.map ad = r.map ad0 := by
  cases r with
  | none => rfl
  | some k => simp only [decide_eq_true_eq] at hr; simp [h k hr]
theorem zConc_agr {G : ZG} {ad0 ad : Nat → Nat} {n : Nat} {S : List ZSh} {μ : ZMem} (h : zAgr n ad0 ad) (hw : zWfS n S = true) (hn : S.length ≤ n) : zConc G ad S μ = zConc G ad0 S μ := by
  apply List.ext_getElem?
  intro k
  simp only [zConc, List.getElem?_mapIdx]
  cases hs : S[k]? with
  | none => rfl
  | some sh =>
    have hk : k < S.length := (List.getElem?_eq_some_iff.mp hs).1
    have hsh := List.all_eq_true.mp hw sh (List.mem_of_getElem? hs)
    simp only [Option.map_some, Option.some.injEq, Prod.mk.injEq]
    refine ⟨h k (Or.inl (by omega)), ?_⟩
    rcases sh with ⟨ci, fl⟩ | ⟨kd, m, rs⟩
    · show (Sum.inr (ci, fl.mapIdx (fun j f => zFv ad (μ k j) f)) : va_E) = Sum.inr (ci, fl.mapIdx (fun j f => zFv ad0 (μ k j) f))
      congr 2
      apply List.ext_getElem?
      intro i
      rw [List.getElem?_mapIdx, List.getElem?_mapIdx]
      cases hf : fl[i]? with
      | none => rfl
      | some q =>
        have hq := List.all_eq_true.mp hsh q (List.mem_of_getElem? hf)
        obtain ⟨kd, r⟩ := q
        have e := zRf_agr h hq
        rcases kd with _ | _ | _ | kd <;> simp [zFv, zRf, e]
    · have e : ∀ j, (rs.getD j none).map ad = (rs.getD j none).map ad0 := fun j => by
        rw [List.getD_eq_getElem?_getD]
        cases hj : rs[j]? with
        | none => rfl
        | some q => exact zRf_agr h (List.all_eq_true.mp hsh q (List.mem_of_getElem? hj))
      have e := funext e
      rcases kd with _ | _ | _ | kd
      · rfl
      · rfl
      · show (Sum.inl (G.2.2.1, m, Sum.inr (Sum.inr (Sum.inr (Sum.inr (fun j => (rs.getD j none).map ad))))) : va_E) = _
        rw [e]
        rfl
      · show (Sum.inl (G.2.2.2, m, Sum.inr (Sum.inr (Sum.inr (Sum.inr (fun j => (rs.getD j none).map ad))))) : va_E) = _
        rw [e]
        rfl
def zIx : List Nat → Nat → Nat → Option Nat
  | [], _, _ => none
  | a :: t, j, c => cond (Nat.beq a c) (some j) (zIx t (j + 1) c)
/-- the caller's memory behind a call: the callee's numbers at their places -/
def zMg (pl : List Nat) (μ ν : ZMem) : ZMem := fun c i => match zIx pl 0 c with
  | some j => ν j i
  | none => μ c i
theorem zIx_some : ∀ {pl : List Nat} {b c j : Nat}, zIx pl b c = some j → b ≤ j ∧ pl[j - b]? = some c
  | [], _, _, _, h => by cases h
  | a :: t, b, c, j, h => by
    unfold zIx at h
    cases hb : Nat.beq a c with
    | true =>
      rw [hb] at h
      simp only [cond_true, Option.some.injEq] at h
      subst h
      exact ⟨Nat.le_refl _, by simp [Nat.eq_of_beq_eq_true hb]⟩
    | false =>
      rw [hb] at h
      obtain ⟨h1, h2⟩ := zIx_some (pl := t) h
      refine ⟨by omega, ?_⟩
      rw [show j - b = (j - (b + 1)) + 1 by omega, List.getElem?_cons_succ]
      exact h2
theorem zIx_none : ∀ {pl : List Nat} {b c : Nat}, zIx pl b c = none → c ∉ pl
  | [], _, _, _ => List.not_mem_nil
  | a :: t, b, c, h => by
    unfold zIx at h
    cases hb : Nat.beq a c with
    | true => rw [hb] at h; cases h
    | false =>
      rw [hb] at h
      intro hm
      rcases List.mem_cons.mp hm with e | hm
      · rw [e, Nat.beq_refl] at hb; cases hb
      · exact zIx_none (pl := t) h hm
/-- Sg is the part of S at the places pl -/
def zSub (S : List ZSh) (pl : List Nat) (Sg : List ZSh) : Prop := pl.map (fun i => S[i]?) = Sg.map (fun sh => some (zRn pl sh)) ∧ va_nd pl = true ∧ zWfS Sg.length Sg = true ∧ Nat.ble pl.length 1000 = true
theorem zSub.len {S : List ZSh} {pl : List Nat} {Sg : List ZSh} (h : zSub S pl Sg) : pl.length = Sg.length := by
  have := congrArg List.length h.1
  simpa using this
theorem zSub.at {S : List ZSh} {pl : List Nat} {Sg : List ZSh} (h : zSub S pl Sg) {j : Nat} {sh : ZSh} (hj : Sg[j]? = some sh) : pl[j]? = some (zRho pl j) ∧ S[zRho pl j]? = some (zRn pl sh) := by
  have hl : j < pl.length := by rw [h.len]; exact (List.getElem?_eq_some_iff.mp hj).1
  have e1 : pl[j]? = some (zRho pl j) := by
    unfold zRho
    rw [List.getD_eq_getElem?_getD, List.getElem?_eq_getElem hl]
    rfl
  refine ⟨e1, ?_⟩
  have h1 : (pl.map (fun i => S[i]?))[j]? = (Sg.map (fun sh => some (zRn pl sh)))[j]? := by rw [h.1]
  rw [List.getElem?_map, List.getElem?_map, e1, hj] at h1
  exact Option.some.inj h1
theorem zSub.conc {S : List ZSh} {pl : List Nat} {Sg : List ZSh} (h : zSub S pl Sg) (G : ZG) (ad : Nat → Nat) (μ : ZMem) : pl.map (fun i => (zConc G ad S μ)[i]?) = (zConc G (fun k => ad (zRho pl k)) Sg (fun k => μ (zRho pl k))).map some := by
  apply List.ext_getElem?
  intro j
  rw [List.getElem?_map, List.getElem?_map]
  cases hj : Sg[j]? with
  | none =>
    have h1 : Sg.length ≤ j := by simpa using hj
    have h2 : pl[j]? = none := by rw [List.getElem?_eq_none_iff, h.len]; exact h1
    have h3 : (zConc G (fun k => ad (zRho pl k)) Sg (fun k => μ (zRho pl k)))[j]? = none := by rw [List.getElem?_eq_none_iff, zConc_len]; exact h1
    rw [h2, h3]
    rfl
  | some sh =>
    obtain ⟨h1, h2⟩ := h.at hj
    rw [h1, zConc_at hj]
    simp only [Option.map_some]
    rw [zConc_at h2, zCell_rn]
theorem zD_mem {A : Nat → Prop} {G : ZG} {ad : Nat → Nat} {S : List ZSh} {μ μ' : ZMem} (h : va_D A (zConc G ad S μ)) : va_D A (zConc G ad S μ') := by
  have key : ∀ {μ1 : ZMem} {k : Nat} {q : Nat × va_E}, (zConc G ad S μ1)[k]? = some q → q.1 = ad k ∧ ∃ q2, (zConc G ad S μ)[k]? = some q2 ∧ q2.1 = ad k := by
    intro μ1 k q hk
    simp only [zConc, List.getElem?_mapIdx] at hk ⊢
    cases hs : S[k]? with
    | none => rw [hs] at hk; cases hk
    | some sh => rw [hs] at hk; cases hk; exact ⟨rfl, _, rfl, rfl⟩
  refine ⟨fun i j x y hi hj hxy => ?_, fun k q hk => ?_⟩
  · obtain ⟨e1, q1, a1, b1⟩ := key hi
    obtain ⟨e2, q2, a2, b2⟩ := key hj
    exact h.1 i j q1 q2 a1 a2 (by rw [b1, b2, ← e1, ← e2]; exact hxy)
  · obtain ⟨e1, q1, a1, b1⟩ := key hk
    rw [e1, ← b1]
    exact h.2 k q1 a1
/-- behind a call: all cells, the callee's as it left them -/
theorem zJoin {D : va_G} {G : ZG} {ad : Nat → Nat} {S Sg : List ZSh} {pl : List Nat} {μ ν : ZMem} {A : Nat → Prop} {H H1 : Heap} (hs : zSub S pl Sg) (hP : va_P D vwCl (zConc G ad S μ) H) (hD : va_D A (zConc G ad S μ))
    (hk : ∀ q : Nat, q < H.size → ¬ va_A (zConc G (fun k => ad (zRho pl k)) Sg (fun k => μ (zRho pl k))) H.size q → H1[q]? = H[q]?) (hP1 : va_P D vwCl (zConc G (fun k => ad (zRho pl k)) Sg ν) H1) : va_P D vwCl (zConc G ad S (zMg pl μ ν)) H1 := by
  intro k q hq
  have hk0 : k < S.length := by have := (List.getElem?_eq_some_iff.mp hq).1; rwa [zConc_len] at this
  obtain ⟨sh, hsh⟩ : ∃ sh, S[k]? = some sh := ⟨_, List.getElem?_eq_getElem hk0⟩
  rw [zConc_at hsh] at hq
  cases hq
  cases hx : zIx pl 0 k with
  | some j =>
    obtain ⟨-, hj⟩ := zIx_some hx
    rw [Nat.sub_zero] at hj
    have hjl : j < Sg.length := by rw [← hs.len]; exact (List.getElem?_eq_some_iff.mp hj).1
    obtain ⟨sg, hsg⟩ : ∃ sg, Sg[j]? = some sg := ⟨_, List.getElem?_eq_getElem hjl⟩
    obtain ⟨h1, h2⟩ := hs.at hsg
    have e : zRho pl j = k := Option.some.inj (h1.symm.trans hj)
    have h3 := hP1 j _ (zConc_at hsg)
    rw [e] at h2 h3
    cases Option.some.inj (hsh.symm.trans h2)
    have e2 : zCell G ad (zMg pl μ ν) k (zRn pl sg) = zCell G (fun k => ad (zRho pl k)) ν j sg := by
      have hm : ∀ i, zMg pl μ ν k i = ν j i := fun i => by unfold zMg; rw [hx]
      have h9 := zCell_rn G ad pl (zMg pl μ ν) j sg
      rw [e] at h9
      rw [h9]
      rcases sg with ⟨ci, fl⟩ | ⟨kd, n, rs⟩
      · simp [zCell, e, hm]
      · rcases kd with _ | _ | _ | kd <;> simp [zCell, e, hm]
    rw [e2]
    exact h3
  | none =>
    have hn := zIx_none hx
    have e2 : zCell G ad (zMg pl μ ν) k sh = zCell G ad μ k sh := by
      have hm : ∀ i, zMg pl μ ν k i = μ k i := fun i => by unfold zMg; rw [hx]
      rcases sh with ⟨ci, fl⟩ | ⟨kd, n, rs⟩
      · simp [zCell, hm]
      · rcases kd with _ | _ | _ | kd <;> simp [zCell, hm]
    rw [e2]
    have h0 := hP k _ (zConc_at hsh)
    refine h0.kept (hk _ h0.lt (fun ha => ?_))
    rcases ha with ⟨j, e, hj⟩ | hge
    · have hjl : j < Sg.length := by have := (List.getElem?_eq_some_iff.mp hj).1; rwa [zConc_len] at this
      obtain ⟨sg, hsg⟩ : ∃ sg, Sg[j]? = some sg := ⟨_, List.getElem?_eq_getElem hjl⟩
      rw [zConc_at hsg] at hj
      have e3 : ad (zRho pl j) = ad k := congrArg Prod.fst (Option.some.inj hj)
      obtain ⟨h1, h2⟩ := hs.at hsg
      have e4 := hD.1 _ _ _ _ (zConc_at (G := G) (ad := ad) (μ := μ) h2) (zConc_at (G := G) (ad := ad) (μ := μ) hsh) e3
      rw [e4] at h1
      exact hn (List.mem_of_getElem? h1)
    · have := h0.lt
      exact absurd hge (by simpa using this)
