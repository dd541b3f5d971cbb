/-! thread: the lock step -/
section Thread4
variable {σ τ : Sg}
/-- the class: one message that stands -/
theorem thC {n i : Nat} (hn60 : n ≤ 60) (hi : i < n) (hI : Inv σ τ) (hn : τ 173 3 = n) (h : thR n (i + 1) σ τ) (h7 : mW (τ 173) i 7 = 0) (best : Int) (hb : best = -1 ∨ ∃ b : Nat, best = b ∧ i < b ∧ b < n) : ∃ σ', Gl_dearest_32_b 2 best (i : Int) σ = some (.inl (if best = -1 then (i : Int) else if σ' 167 i < σ' 167 best.toNat then best else (i : Int), (i : Int) - 1, σ')) ∧ (∀ c, c ≠ 167 → σ' c = σ c) ∧ σ' 167 i = mW (τ 173) i 4 + mxF (τ 173) (τ 188) i (i + 1) (n - (i + 1)) ∧ ∀ j, j ≠ i → σ' 167 j = if mW (τ 173) i 6 = j then mx2 (σ 167 j) (mW (τ 173) i 4 + mxF (τ 173) (τ 188) i (i + 1) (n - (i + 1))) else σ 167 j := by
  obtain ⟨hT, hW, -⟩ := hI.1
  have hM := hW.2.2.2.2 i (by omega)
  have bi := thR_in (by omega) h i
  have t4 : σ 10 i = mW (τ 173) i 4 := hT.2.2.2.2.2.2.2 i 4 (by omega) (by decide)
  have t6 : σ 12 i = mW (τ 173) i 6 := hT.2.2.2.2.2.2.2 i 6 (by omega) (by decide)
  have t7 : σ 13 i = mW (τ 173) i 7 := hT.2.2.2.2.2.2.2 i 7 (by omega) (by decide)
  have h4 := hM.2.2.2.2.1
  have h1 := h.1 i (by omega)
  generalize hv : mW (τ 173) i 4 + mxF (τ 173) (τ 188) i (i + 1) (n - (i + 1)) = v
  have ev : σ 167 i + mW (τ 173) i 4 = v := by omega
  have last : ∀ σ' : Sg, (if best = -1 then ll (wr ((i : Int) + -1)) fun z => some (Sum.inl (β := (Int × Sg) ⊕ (Int × Sg)) ((i : Int), z, σ')) else ix (i : Int) 60 (ix best 60 (if σ' 167 (i : Int).toNat < σ' 167 best.toNat then ll (wr ((i : Int) + -1)) fun z => some (Sum.inl (best, z, σ')) else ll (wr ((i : Int) + -1)) fun z => some (Sum.inl ((i : Int), z, σ'))))) = some (.inl (if best = -1 then (i : Int) else if σ' 167 i < σ' 167 best.toNat then best else (i : Int), (i : Int) - 1, σ')) := by
    intro σ'
    rw [wr_q (by omega) (by omega), show (i : Int) + -1 = i - 1 by omega, Int.toNat_natCast]
    rcases hb with hb | ⟨b, hb, hb1, hb2⟩
    · rw [if_pos hb, if_pos hb, ll_q]
    · have hb' : ¬ best = -1 := by omega
      rw [if_neg hb', if_neg hb', ix_q (by omega) (by omega), ix_q (by omega) (by omega)]
      by_cases z : σ' 167 i < σ' 167 best.toNat
      · rw [if_pos z, if_pos z, ll_q]
      · rw [if_neg z, if_neg z, ll_q]
  have hv0 : 0 ≤ v ∧ v ≤ 1000 := by omega
  unfold Gl_dearest_32_b
  rw [if_neg (by omega), ix_q (by omega) (by omega), ix_q (by omega) (by omega), ix_q (by omega) (by omega), ix_q (by omega) (by omega)]
  simp only [Int.toNat_natCast, Nat.reduceAdd]
  rw [t7, if_pos h7, t4, ev, wr_q (n := v) (by omega) (by omega), ll_q, ix_q (by omega) (by omega), ll_q, su_c (by decide), t6]
  rcases hM.2.2.2.2.2.2.1 with m6 | ⟨p, hp, m6, -⟩
  · rw [m6, if_pos (by omega), b1_q]
    have l := last (su σ 167 i v)
    rw [Int.toNat_natCast] at l
    exact ⟨_, l, fun c hc => su_c hc, by rw [su_s, up_a], fun j hj => by rw [su_s, up_n hj, if_neg (by omega)]⟩
  · rw [m6, if_neg (by omega), if_pos (by omega), ix_q (by omega) (by omega), ix_q (by omega) (by omega), jmax_q, b1_q, ix_q (by omega) (by omega), ll_q, b1_q]
    simp only [Int.toNat_natCast]
    rw [su_s, up_n (by omega), up_a]
    have l := last (su (su σ 167 i v) 167 p (mx2 (σ 167 p) v))
    rw [Int.toNat_natCast] at l
    refine ⟨_, l, fun c hc => by rw [su_c hc, su_c hc], by rw [su_s, up_n (by omega), su_s, up_a], fun j hj => ?_⟩
    rw [su_s]
    by_cases jp : j = p
    · rw [jp, up_a, if_pos rfl]
    · rw [up_n jp, su_s, up_n hj, if_neg (by omega)]
end Thread4
