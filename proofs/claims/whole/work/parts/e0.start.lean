/-! the start: what the Statement gives -/
section Start
variable {s : State} {args : Array Value} {A : Nat → Prop}
def gvn : List Cond := flatC (Jvm.Cond.and given_1 narrow_1)
def sTm (i : Nat) : Term := match sOwn[i]? with
  | some q => .string q.1 q.2.1
  | none => .string "" 0
def sB : List Nat := [45, 141, 177, 212, 231, 239, 245, 252, 259, 268, 277, 285, 293, 299, 306, 315, 323, 331, 341, 349, 356, 364, 373, 381, 389, 396, 404, 412, 421, 427, 435, 446, 454]
theorem sX0 : ∀ i, i < nStr → gvn[sB.getD i 0]? = some (.exactly (sTm i) "java/lang/String") := by decide +kernel
theorem sX1 : ∀ i, i < nStr → gvn[sB.getD i 0 + 1]? = some (.eq (.field (sTm i) "java/lang/String" "coder" "B") (.int 0)) := by decide +kernel
theorem sX2 : ∀ i, i < nStr → gvn[sB.getD i 0 + 2]? = some (.arrayOf (.field (sTm i) "java/lang/String" "value" "[B") .byte) := by decide +kernel
theorem sX3 : ∀ i, i < nStr → gvn[sB.getD i 0 + 3]? = some (.eq (.length (.field (sTm i) "java/lang/String" "value" "[B")) (.int (Int32.ofNat (sLen.getD i 0)))) := by decide +kernel
theorem sX4 : ∀ i, i < nStr → ∀ j, j < sLen.getD i 0 → gvn[sB.getD i 0 + 4 + j]? = some (.eq (.elem (.field (sTm i) "java/lang/String" "value" "[B") (.int (Int32.ofNat j))) (.int ((sByt.getD i []).getD j 0))) := by decide +kernel
theorem sX5 : ∀ i, i < nStr → sLen.getD i 0 < 2 ^ 31 := by decide +kernel
theorem sX6 : ∀ i, i < nStr → ∀ j, j < nStr → i ≠ j → ¬ (Int32.ofNat (sLen.getD i 0) = Int32.ofNat (sLen.getD j 0) ∧ ∀ k, k < sLen.getD i 0 → (sByt.getD i []).getD k 0 = (sByt.getD j []).getD k 0) := by decide +kernel
theorem gvn_at {w : Cond} (hs : (Jvm.Cond.and given_1 narrow_1).before args s = true) (i : Nat) (h : gvn[i]? = some w) : w.before args s = true := flat_of_before _ hs w (List.mem_of_getElem? h)
theorem strS (hs : (Jvm.Cond.and given_1 narrow_1).before args s = true) (hA : ∀ a : Nat, a < s.heap.size → ¬ A a) : ∃ adK adV : Nat → Nat, vk_S nStr sLen sByt adK adV A s s.heap ∧ ∀ i : Nat, i < nStr → (sTm i).eval args s none [] s = some (.ref (adK i)) := by
  have h0 : ∀ i : Nat, ∃ q : Nat × Nat, i < nStr → (sTm i).eval args s none [] s = some (.ref q.1) ∧ va_O "java/lang/String" q.1 A s s.heap ∧ va_OF "java/lang/String" "coder" "B" (.int 0) q.1 A s s.heap ∧ va_OF "java/lang/String" "value" "[B" (.ref q.2) q.1 A s s.heap ∧ va_T .byte q.2 (sLen.getD i 0) (fun j => .int ((sByt.getD i []).getD j 0)) A s s.heap := by
    intro i
    by_cases hi : i < nStr
    · obtain ⟨a, c, cA, kA, q1, q2, q3, q4, q5, q6, -⟩ := Cond.exactly_spec (args := args) (first := s) (o := none) (s := s) (idx := []) (t := sTm i) (cls := "java/lang/String") (gvn_at hs _ (sX0 i hi))
      obtain ⟨t, ht, hT⟩ := va_Tof (f := fun j => .int ((sByt.getD i []).getD j 0)) (A := A) (sX5 i hi) (gvn_at hs _ (sX2 i hi)) (va_eqt (gvn_at hs _ (sX3 i hi))) (fun j hj => va_eqt (gvn_at hs _ (sX4 i hi j hj))) hA
      exact ⟨(a, t), fun _ => ⟨q1, ⟨cA, q3, q5, by rw [q6]; exact q2, hA a (Array.getElem?_eq_some_iff.mp q3).1⟩, vk_OFof q1 (va_eqt (gvn_at hs _ (sX1 i hi))) hA, vk_OFof q1 ht hA, hT⟩⟩
    · exact ⟨(0, 0), fun h => absurd h hi⟩
  obtain ⟨ad, had⟩ := Classical.axiomOfChoice h0
  refine ⟨fun i => (ad i).1, fun i => (ad i).2, ⟨fun i hi => (had i hi).2, fun i j hi hj e => ?_⟩, fun i hi => (had i hi).1⟩
  by_cases hij : i = j
  · exact hij
  · exfalso
    obtain ⟨-, -, -, ⟨cf, k, x, f, cell, a1, a2, a3, a4, a5, a6⟩, ⟨cl, b1, b2, b3, b4, b5, b6, b7⟩⟩ := had i hi
    obtain ⟨-, -, -, ⟨cf', k', x', f', cell', a1', a2', a3', a4', a5', a6'⟩, ⟨cl', b1', b2', b3', b4', b5', b6', b7'⟩⟩ := had j hj
    have e : (ad i).1 = (ad j).1 := e
    rw [e] at a3
    cases a1.symm.trans a1'
    cases a3.symm.trans a3'
    have e2 : (ad i).2 = (ad j).2 := by
      have := Option.some.inj (a5.symm.trans a5')
      exact Value.ref.inj this
    rw [e2] at b1
    cases b1.symm.trans b1'
    have e3 := b5.symm.trans b5'
    refine sX6 i hi j hj hij ⟨e3, fun q hq => ?_⟩
    have hlen : sLen.getD i 0 = sLen.getD j 0 := by
      have h1 : ∀ i, i < nStr → ∀ j, j < nStr → Int32.ofNat (sLen.getD i 0) = Int32.ofNat (sLen.getD j 0) → sLen.getD i 0 = sLen.getD j 0 := by decide +kernel
      exact h1 i hi j hj e3
    exact Value.int.inj (Option.some.inj ((b6 q hq).symm.trans (b6' q (by rw [← hlen]; exact hq))))
/-- the classes -/
theorem clK {own : String} {idx c : Nat} (ht : ∀ w ∈ gw, w.before args s = true) (hC : CL c) (hN : NL own idx c) : ∃ q : ClassId × (Nat → Nat), ∀ z : vw_C, vwCl[c]? = some z → u_Kn s z.1 z.2.1 z.2.2 q.1 q.2 := by
  obtain ⟨C, T, N, h1, -, h3, -⟩ := hN
  obtain ⟨C', T', N', ty, h1', h4, -, -⟩ := hC
  cases h1.symm.trans h1'
  obtain ⟨cC, iS, hk⟩ := u_known ht h4 (ht _ h3)
  exact ⟨(cC, iS), fun z hz => by cases h1.symm.trans hz; exact hk⟩
theorem allK (ht : ∀ w ∈ gw, w.before args s = true) : ∃ D : va_G, ∀ (c : Nat) (q : vw_C), vwCl[c]? = some q → u_Kn s q.1 q.2.1 q.2.2 (D.1 c) (D.2 c) := by
  have h0 : ∀ c : Nat, ∃ q : ClassId × (Nat → Nat), ∀ z : vw_C, vwCl[c]? = some z → u_Kn s z.1 z.2.1 z.2.2 q.1 q.2 := by
    intro c
    by_cases hc : c < 10
    · have : c = 0 ∨ c = 1 ∨ c = 2 ∨ c = 3 ∨ c = 4 ∨ c = 5 ∨ c = 6 ∨ c = 7 ∨ c = 8 ∨ c = 9 := by omega
      rcases this with e | e | e | e | e | e | e | e | e | e <;> subst e
      · exact clK ht cl0 mnX8_40
      · exact clK ht cl1 mnX8_56
      · exact clK ht cl2 mnX8_33
      · exact clK ht cl3 mnX8_19
      · exact clK ht cl4 mnX8_26
      · exact clK ht cl5 mnX7_20
      · exact clK ht cl6 mnX8_49
      · exact clK ht cl7 mnX8_9
      · exact clK ht cl8 mnL_7
      · exact clK ht cl9 mnL_10
    · exact ⟨(0, fun _ => 0), fun z hz => by
        rw [List.getElem?_eq_none (by show vwCl.length ≤ c; have : vwCl.length = 10 := rfl; omega)] at hz
        cases hz⟩
  obtain ⟨D, hD⟩ := Classical.axiomOfChoice h0
  exact ⟨(fun c => (D c).1, fun c => (D c).2), fun c q hq => hD c q hq⟩
theorem arI (h : (Cond.arrayClass .int).before args s = true) : ∃ cA, ArrOfT s cA .int ∧ va_RA s cA .int := by
  obtain ⟨c, k, comp, h1, h2, h3⟩ := Cond.arrayClass_spec h
  exact ⟨c, fun n z => ⟨fun k h => (by cases h), k, h2, comp, h3⟩, h1⟩
theorem arO {C : String} (h : (Cond.arrayOver (.object C)).before args s = true) : ∃ cA, ArrOfT s cA (.object C) ∧ va_RA s cA (.object C) := by
  obtain ⟨comp, c, k, h1, -, h3, h4, h5⟩ := Cond.arrayOver_spec h
  exact ⟨c, fun n z => ⟨fun k h => (by cases h), k, h3, comp, h4⟩, k, comp, h3, h4, h1, h5⟩
end Start
