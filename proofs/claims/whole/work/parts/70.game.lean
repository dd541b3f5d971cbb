/-! game -/
theorem bXor_0 {a b c : Int} (hc : inR c) : bXor (bXor a b) c = 0 ↔ c = bXor a b := by
  unfold bXor
  rw [Int32.ofInt_toInt]
  generalize Int32.ofInt a ^^^ Int32.ofInt b = x
  constructor
  · intro h
    have h1 : (x ^^^ Int32.ofInt c) = 0 := by rw [← Int32.toInt_inj]; exact h
    have h2 : x = Int32.ofInt c := by
      apply Int32.toBitVec_inj.mp
      have h3 := congrArg Int32.toBitVec h1
      exact BitVec.xor_eq_zero_iff.mp h3
    rw [h2]; exact (i32_t hc).symm
  · intro h
    rw [h, Int32.ofInt_toInt, Int32.xor_self]; rfl
section Game
variable {σ τ : Sg}
def hpF (w : Nat → Int) (i : Nat) : Int := if mW w i 2 = -1 ∧ mW w i 7 = 0 then Int.tmod (mW w i 3) (mW w i 4 + 2) else 0
theorem heapC {l k : Int} (hk : 0 ≤ k ∧ k ≤ 9) : Gl_heapWorth l k = some (Int.tmod l (k + 2)) := by
  unfold Gl_heapWorth
  rw [if_neg (by omega), wr_q (by omega) (by omega), nzd_q (by omega)]
theorem heapM (hW : WF (τ 173)) {i : Nat} (hi : (i : Int) < τ 173 3) : Mo_heapOf (i : Int) τ = some (hpF (τ 173) i) := by
  have h60 := hW.2.2.1
  obtain ⟨-, -, -, -, m4, -, -, m7, -⟩ := hW.2.2.2.2 i hi
  unfold Mo_heapOf hpF
  rw [isUnread_q (by omega) m7, b1_q, of_3 (by omega), b1_q, of_4 (by omega), b1_q, wr_q (by omega) (by omega), nzd_q (by omega)]
  by_cases c : mW (τ 173) i 2 = -1 ∧ mW (τ 173) i 7 = 0
  · rw [if_pos c, if_pos c, i10]
  · rw [if_neg c, if_neg c, i00]
end Game
