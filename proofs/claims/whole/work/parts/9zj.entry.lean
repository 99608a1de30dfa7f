/-! ===== what holds at the law's entry ===== -/
abbrev lwF : List Cond := flatC (Jvm.Cond.and given_1 narrow_1)
def zOw : List String := ["WeirLedger$Fund", "WeirLedger$Fund", "WeirLedger$Fund", "WeirLedger$Fund", "WeirLedger$Fund", "WeirLedger$Fund", "WeirLedger$Fund", "WeirLedger$Fund", "WeirLedger$Fund", "WeirLedger$Fund", "WeirLedger$Fund", "WeirLedger$Text", "WeirLedger$Text", "WeirLedger$Text", "WeirLedger$Text", "WeirLedger$Text", "WeirLedger$Text", "WeirLedger$Text", "WeirLedger"]
def zIdx : List Nat := [86, 88, 90, 92, 94, 96, 98, 47, 104, 110, 112, 55, 61, 63, 65, 67, 69, 71, 378]
def zBas : List Nat := [99, 109, 118, 127, 139, 146, 154, 91, 161, 173, 182, 192, 200, 208, 216, 224, 232, 240, 247]
def zMix : List Nat := [270, 272, 274, 276, 278, 280, 282, 297, 302, 304, 309, 324, 326, 328, 330, 332, 334, 336, 337]
def zEqb : List Nat := [274, 284, 294, 307, 315, 324, 332, 263, 345, 355, 366, 375, 384, 393, 402, 411, 420, 428, 437]
def zRc : List Nat := [781, 782, 783, 784, 785, 786, 787, 705, 814, 816, 817, 909, 911, 912, 913, 914, 915, 916, 925]
def zRm : List Nat := [1469, 1470, 1471, 1472, 1473, 1474, 1475, 1454, 1486, 1487, 1488, 1505, 1506, 1507, 1508, 1509, 1510, 1511, 1512]
def zTm (i : Nat) : Term := .string (zOw.getD i "") (zIdx.getD i 0)
def zTn (i : Nat) : Term := .string "WeirLedgerModel" (zMix.getD i 0)
theorem ze_1 : ∀ i : Nat, i < 19 → lwF[zBas.getD i 0]? = some (Cond.exactly (zTm i) "java/lang/String") ∧ lwF[zBas.getD i 0 + 1]? = some (Cond.eq (.field (zTm i) "java/lang/String" "coder" "B") (.int 0)) ∧ lwF[zBas.getD i 0 + 2]? = some (Cond.arrayOf (.field (zTm i) "java/lang/String" "value" "[B") .byte) ∧ lwF[zBas.getD i 0 + 3]? = some (Cond.eq (.length (.field (zTm i) "java/lang/String" "value" "[B")) (.int (Int32.ofNat (zSlen.getD i 0)))) := by decide +kernel
theorem ze_2 : ∀ i : Nat, i < 19 → ∀ j : Nat, j < 8 → j < zSlen.getD i 0 → lwF[zBas.getD i 0 + 4 + j]? = some (Cond.eq (.elem (.field (zTm i) "java/lang/String" "value" "[B") (.int (Int32.ofNat j))) (.int ((zSbyt.getD i []).getD j 0))) := by decide +kernel
theorem ze_3 : ∀ i : Nat, i < 19 → zSlen.getD i 0 ≤ 8 ∧ lwF[zEqb.getD i 0]? = some (Cond.eq (zTm i) (zTn i)) := by decide +kernel
theorem ze_4 : ∀ i : Nat, i < 19 → ∀ j : Nat, j < 19 → Int32.ofNat (zSlen.getD i 0) = Int32.ofNat (zSlen.getD j 0) → zSlen.getD i 0 = zSlen.getD j 0 := by decide +kernel
theorem ze_5 : ∀ i : Nat, i < 19 → ∀ j : Nat, j < 19 → zSlen.getD i 0 = zSlen.getD j 0 → (∀ k : Nat, k < 8 → k < zSlen.getD i 0 → (zSbyt.getD i []).getD k 0 = (zSbyt.getD j []).getD k 0) → i = j := by decide +kernel
theorem ze_6 : ∀ q ∈ zTab, q.2.2.2 < 19 ∧ ((Term.string q.1 q.2.1 = zTm q.2.2.2 ∧ lw_tbl[zRc.getD q.2.2.2 0]? = some (Cond.stringRef q.1 q.2.1 q.2.2.1)) ∨ (Term.string q.1 q.2.1 = zTn q.2.2.2 ∧ lw_tbl[zRm.getD q.2.2.2 0]? = some (Cond.stringRef q.1 q.2.1 q.2.2.1))) := by decide +kernel
theorem ze_7 : ∀ q ∈ zNcs, Cond.not (.castable q.1 q.2) ∈ lwF := by decide +kernel
theorem ze_8 : ∀ j : Nat, j < 7 → lwF[7 + j]? = some (Cond.eq (.elem (.static "WeirLedger" "TERM_TOPS" "[I") (.int (Int32.ofNat j))) (.int (Int32.ofInt (zTops.getD j 0)))) := by decide +kernel
section EN
variable {s : State} {args : Array Value} {A : Nat → Prop}
theorem ze_get {k : Nat} {w : Cond} (h : (Jvm.Cond.and given_1 narrow_1).before args s = true) (e : lwF[k]? = some w) : w.before args s = true := flat_of_before _ h _ (List.mem_of_getElem? e)
theorem va_OF.eq {o n d : String} {v v' : Value} {t : Nat} {U : State} {H : Heap} (h : va_OF o n d v t A U H) (h' : va_OF o n d v' t A U H) : v = v' := by
  obtain ⟨cf, k, i, f, cell, a1, -, a3, -, a5, -⟩ := h
  obtain ⟨cf', k', i', f', cell', b1, -, b3, -, b5, -⟩ := h'
  rw [a1] at b1
  cases b1
  rw [a3] at b3
  cases b3
  rw [a5] at b5
  cases b5
  rfl
theorem ze_S (h : (Jvm.Cond.and given_1 narrow_1).before args s = true) (hA : ∀ a : Nat, a < s.heap.size → ¬ A a) : ∃ adK adV : Nat → Nat, vk_S 19 zSlen zSbyt adK adV A s s.heap ∧ ∀ i : Nat, i < 19 → (zTm i).eval args s none [] s = some (.ref (adK i)) := by
  have h0 : ∀ i : Nat, ∃ q : Nat × Nat, i < 19 → (zTm i).eval args s none [] s = some (.ref q.1) ∧ va_O "java/lang/String" q.1 A s s.heap ∧ va_OF "java/lang/String" "coder" "B" (.int 0) q.1 A s s.heap ∧ va_OF "java/lang/String" "value" "[B" (.ref q.2) q.1 A s s.heap ∧ va_T .byte q.2 (zSlen.getD i 0) (fun j => .int ((zSbyt.getD i []).getD j 0)) A s s.heap := by
    intro i
    by_cases hi : i < 19
    · obtain ⟨e1, e2, e3, e4⟩ := ze_1 i hi
      have l8 := (ze_3 i hi).1
      obtain ⟨a, c, cA, kA, q1, q2, q3, q4, q5, q6, -⟩ := Cond.exactly_spec (args := args) (first := s) (o := none) (s := s) (idx := []) (t := zTm i) (cls := "java/lang/String") (ze_get h e1)
      obtain ⟨t, ht, hT⟩ := va_Tof (f := fun j => .int ((zSbyt.getD i []).getD j 0)) (A := A) (show zSlen.getD i 0 < 2 ^ 31 by omega) (ze_get h e3) (va_eqt (ze_get h e4)) (fun j hj => va_eqt (ze_get h (ze_2 i hi j (by omega) hj))) hA
      exact ⟨(a, t), fun _ => ⟨q1, ⟨cA, q3, q5, by rw [q6]; exact q2, hA a (Array.getElem?_eq_some_iff.mp q3).1⟩, vk_OFof q1 (va_eqt (ze_get h e2)) hA, vk_OFof q1 ht hA, hT⟩⟩
    · exact ⟨(0, 0), fun h => absurd h hi⟩
  obtain ⟨ad, had⟩ := Classical.axiomOfChoice h0
  refine ⟨fun i => (ad i).1, fun i => (ad i).2, ⟨fun i hi => (had i hi).2, fun i j hi hj e => ?_⟩, fun i hi => (had i hi).1⟩
  have hv : (ad i).2 = (ad j).2 := by
    have a1 := (had i hi).2.2.2.1
    have b1 := (had j hj).2.2.2.1
    have e' : (ad i).1 = (ad j).1 := e
    rw [e'] at a1
    exact Value.ref.inj (a1.eq b1)
  obtain ⟨c1, p1, -, -, -, p5, p6, -⟩ := (had i hi).2.2.2.2
  obtain ⟨c2, q1, -, -, -, q5, q6, -⟩ := (had j hj).2.2.2.2
  rw [hv, q1] at p1
  cases p1
  have hl := ze_4 i hi j hj (p5.symm.trans q5)
  refine ze_5 i hi j hj hl (fun k hk hk2 => ?_)
  have a1 := p6 k hk2
  have b1 := q6 k (by rw [← hl]; exact hk2)
  rw [a1] at b1
  exact Value.int.inj (Option.some.inj b1)
def zAdr (b t sf : Nat) (adK adV : Nat → Nat) : Nat → Nat := fun k => if k = zTT then t else if k = zSF then sf else if k = zSC then b else if zVB ≤ k then adV (k - zVB) else adK (k - zSB)
theorem ze_X {b : Nat} (h : (Jvm.Cond.and given_1 narrow_1).before args s = true) (hts : ∀ w ∈ lw_tbl, w.before args s = true) (hA : ∀ a : Nat, a < s.heap.size → ¬ A a) : ∃ ad0 : Nat → Nat, zEX zTab ad0 ad0 A s s.heap ∧ ad0 zSC = b := by
  obtain ⟨adK, adV, hS, hev⟩ := ze_S (A := A) h hA
  have htab : ∀ (k : Nat) {w : Cond}, lw_tbl[k]? = some w → w.before args s = true := fun k {w} e => hts w (List.mem_of_getElem? e)
  obtain ⟨t, ht, hT⟩ := va_Tof (tm := .static "WeirLedger" "TERM_TOPS" "[I") (ty := .int) (N := 7) (f := fun j => .int (Int32.ofInt (zTops.getD j 0))) (A := A) (by decide) (ze_get h (k := 5) (by decide +kernel)) (va_eqt (ze_get h (k := 6) (by decide +kernel))) (fun j hj => va_eqt (ze_get h (ze_8 j hj))) hA
  have hTT : va_Z "WeirLedger" "TERM_TOPS" "[I" (.ref t) A s s.heap := va_Zof (htab 493 (by decide +kernel)) (htab 70 (by decide +kernel)) ht hA
  have hCS : va_Z "java/lang/String" "COMPACT_STRINGS" "Z" (.int 1) A s s.heap := va_Zof (htab 723 (by decide +kernel)) (htab 81 (by decide +kernel)) (va_eqt (ze_get h (k := 14) (by decide +kernel))) hA
  have hU : vx_Zq Bundle.tN "UNASSIGNED_STACK" Bundle.steD A s s.heap := vx_Zqof (htab 849 (by decide +kernel)) (htab 85 (by decide +kernel)) (ze_get h (k := 19) (by decide +kernel)) hA
  have hP : vx_Zq Bundle.tN "SUPPRESSED_SENTINEL" Bundle.listD A s s.heap := vx_Zqof (htab 851 (by decide +kernel)) (htab 85 (by decide +kernel)) (ze_get h (k := 20) (by decide +kernel)) hA
  obtain ⟨sf, hF⟩ : ∃ sf : Nat, va_Z "jdk/internal/util/Preconditions" "SIOOBE_FORMATTER" "Ljava/util/function/BiFunction;" .null A s s.heap ∨ va_Z "jdk/internal/util/Preconditions" "SIOOBE_FORMATTER" "Ljava/util/function/BiFunction;" (.ref sf) A s s.heap := by
    obtain ⟨v, hv, hr⟩ := Cond.isRef_spec (ze_get h (k := 15) (w := Cond.isRef (.static "jdk/internal/util/Preconditions" "SIOOBE_FORMATTER" "Ljava/util/function/BiFunction;")) (by decide +kernel))
    cases v with
    | null => exact ⟨0, Or.inl (va_Zof (htab 743 (by decide +kernel)) (htab 83 (by decide +kernel)) hv hA)⟩
    | ref a => exact ⟨a, Or.inr (va_Zof (htab 743 (by decide +kernel)) (htab 83 (by decide +kernel)) hv hA)⟩
    | _ => cases hr
  refine ⟨zAdr b t sf adK adV, ⟨?_, fun q hq => ?_, ?_, ?_, hCS, hU, hP, fun w hw => ?_, fun q hq => ?_, ?_, ?_, ?_⟩, ?_⟩
  · have eK : ∀ i : Nat, i < 19 → zAdr b t sf adK adV (zSB + i) = adK i := fun i hi => by
      unfold zAdr
      rw [if_neg (by show ¬ 1000000 + i = 2000000; omega), if_neg (by show ¬ 1000000 + i = 2000001; omega), if_neg (by show ¬ 1000000 + i = 2000002; omega), if_neg (by show ¬ 1500000 ≤ 1000000 + i; omega), show zSB + i - zSB = i by omega]
    have eV : ∀ i : Nat, i < 19 → zAdr b t sf adK adV (zVB + i) = adV i := fun i hi => by
      unfold zAdr
      rw [if_neg (by show ¬ 1500000 + i = 2000000; omega), if_neg (by show ¬ 1500000 + i = 2000001; omega), if_neg (by show ¬ 1500000 + i = 2000002; omega), if_pos (by show 1500000 ≤ 1500000 + i; omega), show zVB + i - zVB = i by omega]
    refine ⟨fun i hi => ?_, fun i j hi hj e => ?_⟩
    · show va_O "java/lang/String" (zAdr b t sf adK adV (zSB + i)) A s s.heap ∧ va_OF "java/lang/String" "coder" "B" (.int 0) (zAdr b t sf adK adV (zSB + i)) A s s.heap ∧ va_OF "java/lang/String" "value" "[B" (.ref (zAdr b t sf adK adV (zVB + i))) (zAdr b t sf adK adV (zSB + i)) A s s.heap ∧ va_T .byte (zAdr b t sf adK adV (zVB + i)) (zSlen.getD i 0) (fun j => .int ((zSbyt.getD i []).getD j 0)) A s s.heap
      rw [eK i hi, eV i hi]
      exact hS.1 i hi
    · have e' : zAdr b t sf adK adV (zSB + i) = zAdr b t sf adK adV (zSB + j) := e
      rw [eK i hi, eK j hj] at e'
      exact hS.2 i j hi hj e'
  · obtain ⟨h19, hh⟩ := ze_6 q hq
    have eK : zAdr b t sf adK adV (zSB + q.2.2.2) = adK q.2.2.2 := by
      unfold zAdr
      rw [if_neg (by show ¬ 1000000 + q.2.2.2 = 2000000; omega), if_neg (by show ¬ 1000000 + q.2.2.2 = 2000001; omega), if_neg (by show ¬ 1000000 + q.2.2.2 = 2000002; omega), if_neg (by show ¬ 1500000 ≤ 1000000 + q.2.2.2; omega), show zSB + q.2.2.2 - zSB = q.2.2.2 by omega]
    rw [eK]
    rcases hh with ⟨e1, e2⟩ | ⟨e1, e2⟩
    · exact ⟨htab _ e2, by
        show (Term.string q.1 q.2.1).eval #[] s none [] s = _
        rw [e1]
        exact hev _ h19⟩
    · exact ⟨htab _ e2, by
        show (Term.string q.1 q.2.1).eval #[] s none [] s = _
        rw [e1]
        exact va_eqR (args := args) (ze_get h (ze_3 _ h19).2) (hev _ h19)⟩
  · exact hTT
  · exact hT
  · exact va_Nw.of (zWarm.tab (zOther.ok hw)) (hts w (List.mem_filter.mp hw).1)
  · exact va_Nc.of (flat_of_before _ h _ (ze_7 q hq))
  · exact hF
  · exact va_AO.of (htab 328 (by decide +kernel))
  · exact va_AO.of (htab 1468 (by decide +kernel))
  · rfl
end EN
