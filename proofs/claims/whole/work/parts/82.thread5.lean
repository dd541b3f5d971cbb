/-! thread: the call -/
section Thread5
variable {σ τ : Sg}
/-- the reference: one message that stands -/
theorem thN {n i : Nat} (hn60 : n ≤ 60) (hi : i < n) (hW : WF (τ 173)) (hn : τ 173 3 = n) (h : thR n (i + 1) σ τ) (h7 : mW (τ 173) i 7 = 0) (a best : Int) (hb : best = -1 ∨ ∃ b : Nat, best = b ∧ i < b ∧ b < n) {v : Int} (hv : v = mW (τ 173) i 4 + mxF (τ 173) (τ 188) i (i + 1) (n - (i + 1))) : Mo_thread_22_b a best (i : Int) τ = some (.inl (if best = -1 then (i : Int) else if v < τ 188 best.toNat then best else (i : Int), (i : Int) - 1, su τ 188 i v)) := by
  have hM := hW.2.2.2.2 i (by omega)
  have bi := thR_in (by omega) h i
  have h4 := hM.2.2.2.2.1
  have o4 := of0_q (τ := τ) (i := i) (f := 4) (by omega) (by decide)
  have o7 := isBack_q (τ := τ) (i := i) (by omega) hM.2.2.2.2.2.2.2.1
  unfold Mo_thread_22_b
  rw [if_neg (by omega), o7, b1_q, if_pos h7, ll_q, wr_q (by omega) (by omega), show (i : Int) + 1 = ((i + 1 : Nat) : Int) by omega, thM hW hn best (n - (i + 1)) (i + 1) 0 (by omega) (by omega) (fun x h1 h2 h3 => (h.2 x h1 h2 h3).2.1)]
  have e0 : mx2 0 (mxF (τ 173) (τ 188) i (i + 1) (n - (i + 1))) = mxF (τ 173) (τ 188) i (i + 1) (n - (i + 1)) := by
    have := mx2_q 0 (mxF (τ 173) (τ 188) i (i + 1) (n - (i + 1)))
    omega
  rw [e0]
  refine wl_end ?_
  show Mo_thread_45_b τ (i : Int) best _ (n : Int) = _
  unfold Mo_thread_45_b
  rw [hn, if_neg (by omega), show (4 : Int) = ((4 : Nat) : Int) from rfl, o4, b1_q, ix_q (by omega) (by omega), ← hv, wr_q (n := v) (by omega) (by omega), ll_q, wr_q (by omega) (by omega), show (i : Int) + -1 = i - 1 by omega, Int.toNat_natCast]
  rcases hb with hb | ⟨b, hb, hb1, hb2⟩
  · rw [if_pos hb, if_pos hb, ll_q]
  · have hb' : ¬ best = -1 := by omega
    rw [if_neg hb', if_neg hb', ix_q (by omega) (by omega), ix_q (by omega) (by omega), su_s, up_a, up_n (by omega)]
    by_cases z : v < τ 188 best.toNat
    · rw [if_pos z, if_pos z, ll_q]
    · rw [if_neg z, if_neg z, ll_q]
end Thread5
