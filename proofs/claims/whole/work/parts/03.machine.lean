/-! ===== an abstract machine over the kit's rows: values, memory, shapes, the world that they mean ===== -/
abbrev ZV : Type := Int ⊕ (Int ⊕ (UInt32 ⊕ (UInt64 ⊕ Option Nat)))
abbrev zI (a : Int) : ZV := .inl a
abbrev zJ (a : Int) : ZV := .inr (.inl a)
abbrev zF (u : UInt32) : ZV := .inr (.inr (.inl u))
abbrev zD (u : UInt64) : ZV := .inr (.inr (.inr (.inl u)))
abbrev zR (r : Option Nat) : ZV := .inr (.inr (.inr (.inr r)))
def w32 (a : Int) : Int := (Int32.ofInt a).toInt
def w64 (a : Int) : Int := (Int64.ofInt a).toInt
def zRf (ad : Nat → Nat) (r : Option Nat) : Value := va_rf (r.map ad)
def zTr (ad : Nat → Nat) : ZV → Value
  | .inl a => .int (Int32.ofInt a)
  | .inr (.inl a) => .long (Int64.ofInt a)
  | .inr (.inr (.inl u)) => .float u
  | .inr (.inr (.inr (.inl u))) => .double u
  | .inr (.inr (.inr (.inr r))) => zRf ad r
abbrev ZMem : Type := Nat → Int → Int
def zUp (μ : ZMem) (c : Nat) (i v : Int) : ZMem := fun c' i' => if c' = c ∧ i' = i then v else μ c' i'
/-- an object: its class, its fields (kind 0 int, 1 long, 3 boolean: their numbers are the memory's; 2: a reference); an array: its kind (0 int, 1 long, 2 of Books, 3 of String), its length, its references -/
abbrev ZSh : Type := (Nat × List (Nat × Option Nat)) ⊕ (Nat × Nat × List (Option Nat))
abbrev ZG : Type := ClassId × ClassId × ClassId × ClassId
def zFv (ad : Nat → Nat) (x : Int) : Nat × Option Nat → Value
  | (1, _) => .long (Int64.ofInt x)
  | (2, r) => zRf ad r
  | (_, _) => .int (Int32.ofInt x)
def zCell (G : ZG) (ad : Nat → Nat) (μ : ZMem) (k : Nat) : ZSh → va_E
  | .inl (ci, fl) => .inr (ci, fl.mapIdx (fun j f => zFv ad (μ k j) f))
  | .inr (0, n, _) => .inl (G.1, n, .inl (fun j => Int32.ofInt (μ k j)))
  | .inr (1, n, _) => .inl (G.2.1, n, .inr (.inl (fun j => Int64.ofInt (μ k j))))
  | .inr (2, n, rs) => .inl (G.2.2.1, n, .inr (.inr (.inr (.inr (fun j => (rs.getD j none).map ad)))))
  | .inr (_, n, rs) => .inl (G.2.2.2, n, .inr (.inr (.inr (.inr (fun j => (rs.getD j none).map ad)))))
def zConc (G : ZG) (ad : Nat → Nat) (S : List ZSh) (μ : ZMem) : va_W := S.mapIdx (fun k sh => (ad k, zCell G ad μ k sh))
def zTys (G : ZG) : List (ClassId × FieldType) := [(G.1, .int), (G.2.1, .long), (G.2.2.1, .object "WeirLedger$Books"), (G.2.2.2, .object "java/lang/String")]
theorem zConc_at {G : ZG} {ad : Nat → Nat} {S : List ZSh} {μ : ZMem} {k : Nat} {sh : ZSh} (h : S[k]? = some sh) : (zConc G ad S μ)[k]? = some (ad k, zCell G ad μ k sh) := by
  simp [zConc, List.getElem?_mapIdx, h]
theorem zConc_len {G : ZG} {ad : Nat → Nat} {S : List ZSh} {μ : ZMem} : (zConc G ad S μ).length = S.length := by simp [zConc]
/-- one cell's numbers changed -/
theorem zConc_set {G : ZG} {ad : Nat → Nat} {S : List ZSh} {μ μ' : ZMem} {k : Nat} {sh : ZSh} (h : S[k]? = some sh) (ho : ∀ c i, c ≠ k → μ' c i = μ c i) :
    (zConc G ad S μ).set k (ad k, zCell G ad μ' k sh) = zConc G ad S μ' := by
  apply List.ext_getElem?
  intro j
  have hk : k < S.length := (List.getElem?_eq_some_iff.mp h).1
  by_cases hj : j = k
  · subst hj
    rw [List.getElem?_set_self (by rw [zConc_len]; exact hk), zConc_at h]
  · rw [List.getElem?_set_ne (Ne.symm hj)]
    simp only [zConc, List.getElem?_mapIdx]
    cases hs : S[j]? with
    | none => rfl
    | some sj =>
      simp only [Option.map_some, Option.some.injEq, Prod.mk.injEq, true_and]
      have e : ∀ i, μ j i = μ' j i := fun i => (ho j i hj).symm
      rcases sj with ⟨ci, fl⟩ | ⟨kd, n, rs⟩
      · simp [zCell, e]
      · rcases kd with _ | _ | _ | kd <;> simp [zCell, e]
theorem zTr_int {ad : Nat → Nat} {a : Int} : zTr ad (zI a) = .int (Int32.ofInt a) := rfl
theorem w32_of {a : Int} (h1 : -2147483648 ≤ a) (h2 : a < 2147483648) : w32 a = a := by
  unfold w32
  rw [Int32.toInt_ofInt, show Int32.size = 4294967296 from rfl]
  exact Int.bmod_eq_of_le (by omega) (by omega)
theorem w64_of {a : Int} (h1 : -9223372036854775808 ≤ a) (h2 : a < 9223372036854775808) : w64 a = a := by
  unfold w64
  rw [Int64.toInt_ofInt, show Int64.size = 18446744073709551616 from rfl]
  exact Int.bmod_eq_of_le (by omega) (by omega)
theorem zof32 (a : Int) : Int32.ofInt (w32 a) = Int32.ofInt a := Int32.ofInt_toInt _
theorem zof64 (a : Int) : Int64.ofInt (w64 a) = Int64.ofInt a := Int64.ofInt_toInt _
theorem zlt32 {a b : Int} : Int32.ofInt a < Int32.ofInt b ↔ w32 a < w32 b := Int32.lt_iff_toInt_lt
theorem zle32 {a b : Int} : Int32.ofInt a ≤ Int32.ofInt b ↔ w32 a ≤ w32 b := Int32.le_iff_toInt_le
theorem zeq32 {a b : Int} : Int32.ofInt a = Int32.ofInt b ↔ w32 a = w32 b := Int32.toInt_inj.symm
theorem zin32 {a : Int} {n : Nat} : vp_in (Int32.ofInt a) n ↔ 0 ≤ w32 a ∧ w32 a < n := vp_in_iff
theorem zclamp {a : Int} (h : 0 ≤ w32 a) : ((Int32.ofInt a).toNatClampNeg : Int) = w32 a := by
  unfold w32 at h ⊢
  rw [Int32.toNatClampNeg]
  exact Int.toNat_of_nonneg h
theorem zi2l (a : Int) : (Int32.ofInt a).toInt64 = Int64.ofInt (w32 a) := by
  apply Int64.toInt_inj.mp
  rw [Int32.toInt_toInt64, Int64.toInt_ofInt, show Int64.size = 18446744073709551616 from rfl]
  have h1 := Int32.le_toInt (Int32.ofInt a)
  have h2 := Int32.toInt_lt (Int32.ofInt a)
  exact (Int.bmod_eq_of_le (n := (Int32.ofInt a).toInt) (by omega) (by omega)).symm
theorem zl2i (a : Int) : (Int64.ofInt a).toInt32 = Int32.ofInt a := by
  apply Int32.toInt_inj.mp
  rw [Int64.toInt_toInt32, Int64.toInt_ofInt, Int32.toInt_ofInt]
  exact Int.bmod_bmod_of_dvd (by decide)
