/-! ===== the rules of the walk: fields and arrays ===== -/
def zLook : List (Nat × Nat × Nat × Nat) → Nat → Option (Nat × Nat × Nat)
  | [], _ => none
  | q :: t, i => cond (Nat.beq q.1 i) (some q.2) (zLook t i)
theorem zLook_mem {t : List (Nat × Nat × Nat × Nat)} {i : Nat} {x : Nat × Nat × Nat} (h : zLook t i = some x) : (i, x) ∈ t := by
  induction t with
  | nil => cases h
  | cons q t ih =>
    unfold zLook at h
    cases hb : Nat.beq q.1 i with
    | true =>
      rw [hb] at h
      have e := Nat.eq_of_beq_eq_true hb
      simp only [cond_true, Option.some.injEq] at h
      subst e; subst h
      exact List.mem_cons_self
    | false =>
      rw [hb] at h
      exact List.mem_cons_of_mem _ (ih h)
def zFval (μ : ZMem) (r k : Nat) : Nat × Option Nat → ZV
  | (1, _) => zJ (μ r k)
  | (2, x) => zR x
  | (_, _) => zI (μ r k)
theorem zFval_tr {ad : Nat → Nat} {μ : ZMem} {r k : Nat} (fd : Nat × Option Nat) : zTr ad (zFval μ r k fd) = zFv ad (μ r k) fd := by
  obtain ⟨n, x⟩ := fd
  rcases n with _ | _ | _ | n <;> rfl
section ZH
variable {f : ZCf} {n0 : Nat} {S1 S : List ZSh} {pc : Nat} {L : List (Nat × ZV)} {st : List ZV} {μ : ZMem} {kc ks : Nat} {o : Option ZRes}
theorem AW.getf {idx ci k kd r : Nat} {fl : List (Nat × Option Nat)} {fd : Nat × Option Nat} (hd : decode (zcc f) pc = .ok (.getfield idx, 3)) (hm : zLook (zft f) idx = some (ci, k, kd)) (hS : S[r]? = some (.inl (ci, fl))) (hf : fl[k]? = some fd)
    (kk : AW f n0 S1 S (pc + 3) L (zFval μ r k fd :: st) μ kc ks o) : AW f n0 S1 S pc L (zR (some r) :: st) μ kc ks o := by
  intro p l e R s m args below meth c D G ad0 adV A Q C r9 hr hE ad H locs ls hg hP hD hS9 hl
  have w := kk p l e R s m args below meth c D G ad0 adV A Q C r9 hr hE ad H locs ls hg hP hD hS9 hl
  obtain ⟨hx, hb, -, -, hown, hts, -, hK, -, -, -, -, -, -, hF⟩ := C
  obtain ⟨CN, T, N, ty, hc, hk, hlk, hin, -, -, -, -, -⟩ := hF _ (zLook_mem hm)
  have he := zConc_at (G := G) (ad := ad) (μ := μ) hS
  rw [List.map_cons, zFval_tr] at w
  exact va_get hx hb hts hin hown hK hP r he hc k hk (hts _ hlk) (fun _ h => h) (by simp [List.getElem?_mapIdx, hf]) hd w
theorem zput_cell {G : ZG} {ad : Nat → Nat} {μ : ZMem} {r k ci : Nat} {a : Int} {fl : List (Nat × Option Nat)} {fd : Nat × Option Nat} (hf : fl[k]? = some fd) :
    (Sum.inr (ci, (fl.mapIdx (fun j f => zFv ad (μ r j) f)).set k (zFv ad a fd)) : va_E) = zCell G ad (zUp μ r k a) r (.inl (ci, fl)) := by
  unfold zCell
  congr 2
  apply List.ext_getElem?
  intro j
  have hk : k < fl.length := (List.getElem?_eq_some_iff.mp hf).1
  by_cases hj : j = k
  · subst hj
    rw [List.getElem?_set_self (by simpa using hk), List.getElem?_mapIdx, hf]
    simp [zUp]
  · rw [List.getElem?_set_ne (Ne.symm hj), List.getElem?_mapIdx, List.getElem?_mapIdx]
    congr 1
    funext fd
    have : ¬ ((j : Int) = (k : Int)) := by omega
    simp [zUp, this]
theorem zUp_off {μ : ZMem} {r : Nat} {i v : Int} : ∀ (c : Nat) (j : Int), c ≠ r → zUp μ r i v c j = μ c j := fun c j h => by simp [zUp, h]
/-- a number into a field that is not final -/
theorem AW.putn {idx ci k kd r : Nat} {a : Int} {v : ZV} {x : Option Nat} {fl : List (Nat × Option Nat)} (hd : decode (zcc f) pc = .ok (.putfield idx, 3)) (hm : zLook (zft f) idx = some (ci, k, kd)) (hkd : kd < 10) (hS : S[r]? = some (.inl (ci, fl))) (hf : fl[k]? = some (kd, x))
    (hv : (kd = 0 ∧ v = zI a) ∨ (kd = 1 ∧ v = zJ a) ∨ (kd = 3 ∧ v = zI a ∧ (a = 0 ∨ a = 1))) (kk : AW f n0 S1 S (pc + 3) L st (zUp μ r k a) kc ks o) : AW f n0 S1 S pc L (v :: zR (some r) :: st) μ kc ks o := by
  intro p l e R s m args below meth c D G ad0 adV A Q C r9 hr hE ad H locs ls hg hP hD hS9 hl
  have w := fun H1 locs1 q1 q2 q3 => kk p l e R s m args below meth c D G ad0 adV A Q C r9 hr hE ad H1 locs1 ls hg q1 q2 q3 hl
  obtain ⟨hx, hb, -, -, hown, hts, -, hK, -, -, -, -, -, -, hF⟩ := C
  obtain ⟨CN, T, N, ty, hc, hk, hlk, hin, hty, hnm, hkt, hfin, -⟩ := hF _ (zLook_mem hm)
  dsimp only at hc hk hlk hkt hfin
  have he := zConc_at (G := G) (ad := ad) (μ := μ) hS
  have hmod : kd % 10 = kd := Nat.mod_eq_of_lt hkd
  rw [hmod] at hkt
  have hvv : zTr ad v = zFv ad a (kd, x) := by
    rcases hv with ⟨rfl, rfl⟩ | ⟨rfl, rfl⟩ | ⟨rfl, rfl, -⟩ <;> rfl
  have hnf : narrow (ty k) (zTr ad v) = zTr ad v ∧ fits (ty k) (zTr ad v) = true := by
    rcases hv with ⟨rfl, rfl⟩ | ⟨rfl, rfl⟩ | ⟨rfl, rfl, ha⟩
    · cases h9 : ty k <;> rw [h9] at hkt <;> first | exact absurd (show (false = true) from hkt) Bool.false_ne_true | exact ⟨rfl, rfl⟩
    · cases h9 : ty k <;> rw [h9] at hkt <;> first | exact absurd (show (false = true) from hkt) Bool.false_ne_true | exact ⟨rfl, rfl⟩
    · cases h9 : ty k <;> rw [h9] at hkt <;> first | exact absurd (show (false = true) from hkt) Bool.false_ne_true | skip
      rcases ha with rfl | rfl
      · exact ⟨show narrow FieldType.boolean (.int (Int32.ofInt 0)) = .int (Int32.ofInt 0) by decide +kernel, show fits FieldType.boolean (.int (Int32.ofInt 0)) = true by decide +kernel⟩
      · exact ⟨show narrow FieldType.boolean (.int (Int32.ofInt 1)) = .int (Int32.ofInt 1) by decide +kernel, show fits FieldType.boolean (.int (Int32.ofInt 1)) = true by decide +kernel⟩
  refine va_put hx hb hts hin ty hty hnm hown hK hP hD hS9 r he hc k hk (hts _ hlk) (fun _ h => h) (hfin hkd) (hty k hk) hnf.1 hnf.2 (by simpa using (List.getElem?_eq_some_iff.mp hf).1) hd (fun H1 locs1 q1 q2 q3 => ?_)
  have ew : (zConc G ad S μ).set r (ad r, .inr (ci, (fl.mapIdx (fun j f => zFv ad (μ r j) f)).set k (zTr ad v))) = zConc G ad S (zUp μ r k a) := by
    rw [hvv, zput_cell (G := G) hf]
    exact zConc_set hS zUp_off
  have q1' : va_P D vwCl (zConc G ad S (zUp μ r k a)) H1 := by rw [← ew]; exact q1
  have q2' : va_D A (zConc G ad S (zUp μ r k a)) := by rw [← ew]; exact q2
  exact w H1 locs1 q1' q2' q3
theorem AW.puti {idx ci k r : Nat} {a : Int} {x : Option Nat} {fl : List (Nat × Option Nat)} (hd : decode (zcc f) pc = .ok (.putfield idx, 3)) (hm : zLook (zft f) idx = some (ci, k, 0)) (hS : S[r]? = some (.inl (ci, fl))) (hf : fl[k]? = some (0, x)) (kk : AW f n0 S1 S (pc + 3) L st (zUp μ r k a) kc ks o) : AW f n0 S1 S pc L (zI a :: zR (some r) :: st) μ kc ks o :=
  AW.putn hd hm (by decide) hS hf (Or.inl ⟨rfl, rfl⟩) kk
theorem AW.putl {idx ci k r : Nat} {a : Int} {x : Option Nat} {fl : List (Nat × Option Nat)} (hd : decode (zcc f) pc = .ok (.putfield idx, 3)) (hm : zLook (zft f) idx = some (ci, k, 1)) (hS : S[r]? = some (.inl (ci, fl))) (hf : fl[k]? = some (1, x)) (kk : AW f n0 S1 S (pc + 3) L st (zUp μ r k a) kc ks o) : AW f n0 S1 S pc L (zJ a :: zR (some r) :: st) μ kc ks o :=
  AW.putn hd hm (by decide) hS hf (Or.inr (Or.inl ⟨rfl, rfl⟩)) kk
theorem AW.putb {idx ci k r : Nat} {a : Int} {x : Option Nat} {fl : List (Nat × Option Nat)} (hd : decode (zcc f) pc = .ok (.putfield idx, 3)) (hm : zLook (zft f) idx = some (ci, k, 3)) (hS : S[r]? = some (.inl (ci, fl))) (hf : fl[k]? = some (3, x)) (kk : AW f n0 S1 S (pc + 3) L st (zUp μ r k a) kc ks o) : AW f n0 S1 S pc L (zI a :: zR (some r) :: st) μ kc ks (if a = 0 ∨ a = 1 then o else none) := by
  by_cases h : a = 0 ∨ a = 1
  · rw [if_pos h]
    exact AW.putn hd hm (by decide) hS hf (Or.inr (Or.inr ⟨rfl, rfl, h⟩)) kk
  · rw [if_neg h]
    intro _ _ _ _ _ _ _ _ _ _ _ _ _ _ _ _ _ r hr
    cases hr
/-- an array's number: read, where the index is one of it -/
def zRd (μ : ZMem) (c n : Nat) (i : Int) (K : Int → Option ZRes) : Option ZRes := if 0 ≤ w32 i ∧ w32 i < n then K (μ c (w32 i)) else none
def zWr (μ : ZMem) (c n : Nat) (i v : Int) (K : ZMem → Option ZRes) : Option ZRes := if 0 ≤ w32 i ∧ w32 i < n then K (zUp μ c (w32 i) v) else none
theorem AW.iald {r n : Nat} {i : Int} {rs : List (Option Nat)} {K : Int → Option ZRes} (hd : decode (zcc f) pc = .ok (.iaload, 1)) (hS : S[r]? = some (.inr (0, n, rs))) (kk : ∀ x, AW f n0 S1 S (pc + 1) L (zI x :: st) μ kc ks (K x)) : AW f n0 S1 S pc L (zI i :: zR (some r) :: st) μ kc ks (zRd μ r n i K) := by
  intro p l e R s m args below meth c D G ad0 adV A Q C r9 hr hE ad H locs ls hg hP hD hS9 hl
  unfold zRd at hr
  by_cases h : 0 ≤ w32 i ∧ w32 i < n
  · rw [if_pos h] at hr
    have w := kk _ p l e R s m args below meth c D G ad0 adV A Q C r9 hr hE ad H locs ls hg hP hD hS9 hl
    obtain ⟨hx, hb, -, -, -, -, -, hK, -⟩ := C
    refine va_iald hx hb hK hP r 0 (zConc_at hS) rfl (zin32.mpr h) hd ?_
    rw [zclamp h.1]
    exact w
  · rw [if_neg h] at hr
    cases hr
theorem AW.lald {r n : Nat} {i : Int} {rs : List (Option Nat)} {K : Int → Option ZRes} (hd : decode (zcc f) pc = .ok (.laload, 1)) (hS : S[r]? = some (.inr (1, n, rs))) (kk : ∀ x, AW f n0 S1 S (pc + 1) L (zJ x :: st) μ kc ks (K x)) : AW f n0 S1 S pc L (zI i :: zR (some r) :: st) μ kc ks (zRd μ r n i K) := by
  intro p l e R s m args below meth c D G ad0 adV A Q C r9 hr hE ad H locs ls hg hP hD hS9 hl
  unfold zRd at hr
  by_cases h : 0 ≤ w32 i ∧ w32 i < n
  · rw [if_pos h] at hr
    have w := kk _ p l e R s m args below meth c D G ad0 adV A Q C r9 hr hE ad H locs ls hg hP hD hS9 hl
    obtain ⟨hx, hb, -, -, -, -, -, hK, -⟩ := C
    refine va_lald hx hb hK hP r 1 (zConc_at hS) rfl (zin32.mpr h) hd ?_
    rw [zclamp h.1]
    exact w
  · rw [if_neg h] at hr
    cases hr
theorem AW.iast {r n : Nat} {i a : Int} {rs : List (Option Nat)} {K : ZMem → Option ZRes} (hd : decode (zcc f) pc = .ok (.iastore, 1)) (hS : S[r]? = some (.inr (0, n, rs))) (kk : AW f n0 S1 S (pc + 1) L st (zUp μ r (w32 i) a) kc ks (K (zUp μ r (w32 i) a))) : AW f n0 S1 S pc L (zI a :: zI i :: zR (some r) :: st) μ kc ks (zWr μ r n i a K) := by
  intro p l e R s m args below meth c D G ad0 adV A Q C r9 hr hE ad H locs ls hg hP hD hS9 hl
  unfold zWr at hr
  by_cases h : 0 ≤ w32 i ∧ w32 i < n
  · rw [if_pos h] at hr
    have w := fun H1 locs1 q1 q2 q3 => kk p l e R s m args below meth c D G ad0 adV A Q C r9 hr hE ad H1 locs1 ls hg q1 q2 q3 hl
    obtain ⟨hx, hb, -, -, -, -, -, hK, -⟩ := C
    refine va_iast hx hb hK hP hD hS9 r 0 (zConc_at hS) rfl (zin32.mpr h) hd (fun H1 locs1 q1 q2 q3 => ?_)
    have ew : (zConc G ad S μ).set r (ad r, .inl (G.1, n, .inl (upd (fun j => Int32.ofInt (μ r j)) (Int32.ofInt i).toNatClampNeg (Int32.ofInt a)))) = zConc G ad S (zUp μ r (w32 i) a) := by
      rw [← zConc_set (G := G) (ad := ad) (μ := μ) (μ' := zUp μ r (w32 i) a) hS zUp_off]
      congr 3
      refine Prod.ext rfl (Prod.ext rfl ?_)
      dsimp only
      congr 1
      funext j
      unfold upd zUp
      by_cases hj : j = (Int32.ofInt i).toNatClampNeg
      · rw [if_pos hj, if_pos ⟨rfl, by rw [hj]; exact zclamp h.1⟩]
      · rw [if_neg hj, if_neg (fun q => hj (Int.ofNat_inj.mp (q.2.trans (zclamp h.1).symm)))]
    have q1' : va_P D vwCl (zConc G ad S (zUp μ r (w32 i) a)) H1 := by rw [← ew]; exact q1
    have q2' : va_D A (zConc G ad S (zUp μ r (w32 i) a)) := by rw [← ew]; exact q2
    exact w H1 locs1 q1' q2' q3
  · rw [if_neg h] at hr
    cases hr
theorem AW.last {r n : Nat} {i a : Int} {rs : List (Option Nat)} {K : ZMem → Option ZRes} (hd : decode (zcc f) pc = .ok (.lastore, 1)) (hS : S[r]? = some (.inr (1, n, rs))) (kk : AW f n0 S1 S (pc + 1) L st (zUp μ r (w32 i) a) kc ks (K (zUp μ r (w32 i) a))) : AW f n0 S1 S pc L (zJ a :: zI i :: zR (some r) :: st) μ kc ks (zWr μ r n i a K) := by
  intro p l e R s m args below meth c D G ad0 adV A Q C r9 hr hE ad H locs ls hg hP hD hS9 hl
  unfold zWr at hr
  by_cases h : 0 ≤ w32 i ∧ w32 i < n
  · rw [if_pos h] at hr
    have w := fun H1 locs1 q1 q2 q3 => kk p l e R s m args below meth c D G ad0 adV A Q C r9 hr hE ad H1 locs1 ls hg q1 q2 q3 hl
    obtain ⟨hx, hb, -, -, -, -, -, hK, -⟩ := C
    refine va_last hx hb hK hP hD hS9 r 1 (zConc_at hS) rfl (zin32.mpr h) hd (fun H1 locs1 q1 q2 q3 => ?_)
    have ew : (zConc G ad S μ).set r (ad r, .inl (G.2.1, n, .inr (.inl (vp_updL (fun j => Int64.ofInt (μ r j)) (Int32.ofInt i).toNatClampNeg (Int64.ofInt a))))) = zConc G ad S (zUp μ r (w32 i) a) := by
      rw [← zConc_set (G := G) (ad := ad) (μ := μ) (μ' := zUp μ r (w32 i) a) hS zUp_off]
      congr 3
      refine Prod.ext rfl (Prod.ext rfl ?_)
      dsimp only
      congr 2
      funext j
      unfold vp_updL zUp
      by_cases hj : j = (Int32.ofInt i).toNatClampNeg
      · rw [if_pos hj, if_pos ⟨rfl, by rw [hj]; exact zclamp h.1⟩]
      · rw [if_neg hj, if_neg (fun q => hj (Int.ofNat_inj.mp (q.2.trans (zclamp h.1).symm)))]
    have q1' : va_P D vwCl (zConc G ad S (zUp μ r (w32 i) a)) H1 := by rw [← ew]; exact q1
    have q2' : va_D A (zConc G ad S (zUp μ r (w32 i) a)) := by rw [← ew]; exact q2
    exact w H1 locs1 q1' q2' q3
  · rw [if_neg h] at hr
    cases hr
end ZH
