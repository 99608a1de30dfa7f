/-! ===== making: objects, their final fields, arrays of objects ===== -/
def zNewOk (own : String) (idx ci : Nat) (fl : List (Nat × Option Nat)) : Prop := ∃ (C : String) (T : u_T) (N : Nat) (ty : Nat → FieldType), vwCl[ci]? = some (C, T, N) ∧ (∀ w ∈ u_ws C T N, w ∈ zAll) ∧ (∀ k, k < N → parseFieldDescriptor (T k).2.2.1 = some (ty k)) ∧ Cond.classLink own idx C ∈ zAll ∧ Cond.instantiable C N ∈ zAll ∧ Cond.initialized C ∈ zAll ∧ fl.length = N ∧ ∀ j, j < N → ∃ kd, fl[j]? = some (kd, none) ∧ zKd kd (ty j) = true
theorem zConc_setS {G : ZG} {ad : Nat → Nat} {S : List ZSh} {μ : ZMem} {r : Nat} {sh : ZSh} : (zConc G ad S μ).set r (ad r, zCell G ad μ r sh) = zConc G ad (S.set r sh) μ := by
  apply List.ext_getElem?
  intro j
  by_cases hj : j = r
  · subst hj
    by_cases hl : j < S.length
    · rw [List.getElem?_set_self (by rw [zConc_len]; exact hl), zConc_at (List.getElem?_set_self hl)]
    · rw [List.getElem?_eq_none (by simp [zConc_len]; omega), List.getElem?_eq_none (by rw [zConc_len]; simp; omega)]
  · rw [List.getElem?_set_ne (Ne.symm hj)]
    simp only [zConc, List.getElem?_mapIdx]
    rw [List.getElem?_set_ne (Ne.symm hj)]
theorem zCell_setF {G : ZG} {ad : Nat → Nat} {μ : ZMem} {r ci k x : Nat} {fl : List (Nat × Option Nat)} : (Sum.inr (ci, (fl.mapIdx (fun j f => zFv ad (μ r j) f)).set k (Value.ref (ad x))) : va_E) = zCell G ad μ r (.inl (ci, fl.set k (2, some x))) := by
  show _ = (Sum.inr (ci, (fl.set k (2, some x)).mapIdx (fun j f => zFv ad (μ r j) f)) : va_E)
  congr 2
  apply List.ext_getElem?
  intro j
  rw [List.getElem?_mapIdx]
  by_cases hj : j = k
  · subst hj
    by_cases hl : j < fl.length
    · rw [List.getElem?_set_self (by simpa using hl), List.getElem?_set_self hl]
      rfl
    · rw [List.getElem?_eq_none (by simp; omega), List.getElem?_eq_none (by simp; omega)]
      rfl
  · rw [List.getElem?_set_ne (Ne.symm hj), List.getElem?_set_ne (Ne.symm hj), List.getElem?_mapIdx]
section ZB
variable {f : ZCf} {n0 : Nat} {S1 S S' : List ZSh} {pc : Nat} {L : List (Nat × ZV)} {st : List ZV} {μ : ZMem} {kc ks : Nat} {o : Option ZRes} {idx : Nat} {K : ZMem → Option ZRes}
theorem AW.newo {ci n q : Nat} {fl : List (Nat × Option Nat)} (hd : decode (zcc f) pc = .ok (.new idx, 3)) (ho : zNewOk (zy f).cls idx ci fl) (hn : fl.length = n) (hwf : zWfA n0 S L st = true) (hf1 : kc + 1 ≤ zmc f) (hf2 : ks + n ≤ zms f) (hq : S.length = q) (hS' : S ++ [.inl (ci, fl)] = S') (kk : ∀ μ1, AW f n0 S1 S' (pc + 3) L (zR (some q) :: st) μ1 (kc + 1) (ks + n) (K μ1)) : AW f n0 S1 S pc L st μ kc ks (zLet (zNew μ q) K) := by
  subst hq; subst hS'; subst hn
  obtain ⟨w1, w2, w3, w4, w5⟩ := zWfA.of hwf
  obtain ⟨CN, T, N, ty, hc, hin, hty, hcl, hins, hini, hlen, hall⟩ := ho
  subst hlen
  intro p l e R s m args below meth c D G ad0 adV A Q C r hr hE ad H locs ls hg hP hD hS hl
  have w := kk (zNew μ S.length) p l e R s m args below meth c D G ad0 adV A Q C r hr hE
  obtain ⟨hx, hb, -, -, hown, hts, -, hK, hA, -, ⟨f1, f2, f3, f4⟩, -⟩ := C
  refine va_new (ci := ci) (fs := fl.mapIdx (fun j q => zFv ad 0 q)) hx hb hts hin ty hty hown (hts _ hcl) (hts _ hins) (hts _ hini) hK hP hD hS hA hc (fun j hj => ?_) (by omega) (by omega) hd (fun q H1 hP1 hD1 hS1 => ?_)
  · obtain ⟨kd, h1, h2⟩ := hall j hj
    have e : vp_V (fl.mapIdx (fun j q => zFv ad 0 q)) j = zFv ad 0 (kd, none) := by
      unfold vp_V
      rw [List.getD_eq_getElem?_getD, List.getElem?_mapIdx, h1]
      rfl
    rw [e]
    rcases kd with _ | _ | _ | _ | kd
    · cases h9 : ty j <;> rw [h9] at h2 <;> first | exact absurd (show (false = true) from h2) Bool.false_ne_true | rfl
    · cases h9 : ty j <;> rw [h9] at h2 <;> first | exact absurd (show (false = true) from h2) Bool.false_ne_true | rfl
    · cases h9 : ty j <;> rw [h9] at h2 <;> first | exact absurd (show (false = true) from h2) Bool.false_ne_true | rfl
    · cases h9 : ty j <;> rw [h9] at h2 <;> first | exact absurd (show (false = true) from h2) Bool.false_ne_true | rfl
    · cases h9 : ty j <;> rw [h9] at h2 <;> exact absurd (show (false = true) from h2) Bool.false_ne_true
  · have ha := zAdd_agr (ad := ad) (q := q) w3
    have ec : zConc G (zAdd ad S.length q) (S ++ [.inl (ci, fl)]) (zNew μ S.length) = zConc G ad S μ ++ [(q, .inr (ci, fl.mapIdx (fun j q => zFv ad 0 q)))] := by
      rw [zConc_push w1 w3]
      congr 3
      show (Sum.inr (ci, fl.mapIdx (fun j f => zFv (zAdd ad S.length q) (zNew μ S.length S.length j) f)) : va_E) = _
      congr 2
      apply List.ext_getElem?
      intro j
      rw [List.getElem?_mapIdx, List.getElem?_mapIdx]
      cases hj : fl[j]? with
      | none => rfl
      | some z =>
        obtain ⟨kd, h1, -⟩ := hall j (List.getElem?_eq_some_iff.mp hj).1
        have hz : z = (kd, none) := Option.some.inj (hj.symm.trans h1)
        subst hz
        have hm : zNew μ S.length S.length (j : Int) = 0 := by unfold zNew; rw [if_pos rfl]
        rw [hm]
        rcases kd with _ | _ | _ | kd <;> rfl
    have g := w (zAdd ad S.length q) H1 locs ls (hg.trans ha w2) (by rw [ec]; exact hP1) (by rw [ec]; exact hD1) hS1 (by rw [zLs_agr ha w4]; exact hl)
    rw [List.map_cons, zSt_agr ha w5] at g
    have e5 : zTr (zAdd ad S.length q) (zR (some S.length)) = Value.ref q := by show Value.ref (zAdd ad S.length q S.length) = _; unfold zAdd; rw [if_pos rfl]
    rw [e5] at g
    exact g
theorem AW.putr {ci k r x : Nat} {y : Option Nat} {fl : List (Nat × Option Nat)} (hd : decode (zcc f) pc = .ok (.putfield idx, 3)) (hm : zLook (zft f) idx = some (ci, k, 12)) (hS : S[r]? = some (.inl (ci, fl))) (hf : fl[k]? = some (2, y)) (hin2 : (zy f).name = "<init>") (hS' : S.set r (.inl (ci, fl.set k (2, some x))) = S') (kk : AW f n0 S1 S' (pc + 3) L st μ kc ks o) : AW f n0 S1 S pc L (zR (some x) :: zR (some r) :: st) μ kc ks o := by
  subst hS'
  intro p l e R s m args below meth c D G ad0 adV A Q C r9 hr hE ad H locs ls hg hP hD hS9 hl
  have w := fun H1 locs1 q1 q2 q3 => kk p l e R s m args below meth c D G ad0 adV A Q C r9 hr hE ad H1 locs1 ls hg q1 q2 q3 hl
  obtain ⟨hx, hb, -, -, hown, hts, -, hK, -, -, -, -, -, hnm9, hF⟩ := C
  obtain ⟨CN, T, N, ty, hc, hk, hlk, hin, hty, hnm, hkt, -, hfin⟩ := hF _ (zLook_mem hm)
  dsimp only at hc hk hlk hkt hfin
  obtain ⟨hfin1, hfin2⟩ := hfin ⟨by decide, by decide⟩
  have he := zConc_at (G := G) (ad := ad) (μ := μ) hS
  have hnf : narrow (ty k) (Value.ref (ad x)) = Value.ref (ad x) ∧ fits (ty k) (Value.ref (ad x)) = true := by
    cases h9 : ty k <;> rw [h9] at hkt <;> first | exact absurd (show (false = true) from hkt) Bool.false_ne_true | exact ⟨rfl, rfl⟩
  refine va_putF hx hb hts hin ty hty hnm hown hK hP hD hS9 r he hc k hk (hts _ hlk) (fun _ h => h) hfin1 (hnm9.1.trans hin2) hfin2 (hty k hk) hnf.1 hnf.2 (by simpa using (List.getElem?_eq_some_iff.mp hf).1) hd (fun H1 locs1 q1 q2 q3 => ?_)
  have ew : (zConc G ad S μ).set r (ad r, .inr (ci, (fl.mapIdx (fun j f => zFv ad (μ r j) f)).set k (Value.ref (ad x)))) = zConc G ad (S.set r (.inl (ci, fl.set k (2, some x)))) μ := by
    rw [zCell_setF (G := G)]
    exact zConc_setS
  have q1' : va_P D vwCl (zConc G ad (S.set r (.inl (ci, fl.set k (2, some x)))) μ) H1 := by rw [← ew]; exact q1
  have q2' : va_D A (zConc G ad (S.set r (.inl (ci, fl.set k (2, some x)))) μ) := by rw [← ew]; exact q2
  exact w H1 locs1 q1' q2' q3
/-- a boolean into a final field, in a constructor -/
theorem AW.putbF {ci k r : Nat} {a : Int} {x : Option Nat} {fl : List (Nat × Option Nat)} (hd : decode (zcc f) pc = .ok (.putfield idx, 3)) (hm : zLook (zft f) idx = some (ci, k, 13)) (hS : S[r]? = some (.inl (ci, fl))) (hf : fl[k]? = some (3, x)) (hin2 : (zy f).name = "<init>") (kk : ∀ μ1, AW f n0 S1 S (pc + 3) L st μ1 kc ks (K μ1)) : AW f n0 S1 S pc L (zI a :: zR (some r) :: st) μ kc ks (if a = 0 ∨ a = 1 then zLet (zUp μ r k a) K else none) := by
  by_cases ha : a = 0 ∨ a = 1
  · rw [if_pos ha]
    intro p l e R s m args below meth c D G ad0 adV A Q C r9 hr hE ad H locs ls hg hP hD hS9 hl
    have w := fun H1 locs1 q1 q2 q3 => kk (zUp μ r k a) p l e R s m args below meth c D G ad0 adV A Q C r9 hr hE ad H1 locs1 ls hg q1 q2 q3 hl
    obtain ⟨hx, hb, -, -, hown, hts, -, hK, -, -, -, -, -, hnm9, hF⟩ := C
    obtain ⟨CN, T, N, ty, hc, hk, hlk, hin, hty, hnm, hkt, -, hfin⟩ := hF _ (zLook_mem hm)
    dsimp only at hc hk hlk hkt hfin
    obtain ⟨hfin1, hfin2⟩ := hfin ⟨by decide, by decide⟩
    have he := zConc_at (G := G) (ad := ad) (μ := μ) hS
    have hnf : narrow (ty k) (.int (Int32.ofInt a)) = .int (Int32.ofInt a) ∧ fits (ty k) (.int (Int32.ofInt a)) = true := by
      cases h9 : ty k <;> rw [h9] at hkt <;> first | exact absurd (show (false = true) from hkt) Bool.false_ne_true | skip
      rcases ha with rfl | rfl <;> exact ⟨by decide +kernel, by decide +kernel⟩
    refine va_putF hx hb hts hin ty hty hnm hown hK hP hD hS9 r he hc k hk (hts _ hlk) (fun _ h => h) hfin1 (hnm9.1.trans hin2) hfin2 (hty k hk) hnf.1 hnf.2 (by simpa using (List.getElem?_eq_some_iff.mp hf).1) hd (fun H1 locs1 q1 q2 q3 => ?_)
    have ew : (zConc G ad S μ).set r (ad r, .inr (ci, (fl.mapIdx (fun j f => zFv ad (μ r j) f)).set k (.int (Int32.ofInt a)))) = zConc G ad S (zUp μ r k a) := by
      rw [show (.int (Int32.ofInt a) : Value) = zFv ad a (3, x) from rfl, zput_cell (G := G) hf]
      exact zConc_set hS zUp_off
    have q1' : va_P D vwCl (zConc G ad S (zUp μ r k a)) H1 := by rw [← ew]; exact q1
    have q2' : va_D A (zConc G ad S (zUp μ r k a)) := by rw [← ew]; exact q2
    exact w H1 locs1 q1' q2' q3
  · rw [if_neg ha]
    exact AW.noth
end ZB
