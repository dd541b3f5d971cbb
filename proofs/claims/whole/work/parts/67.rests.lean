/-! rests -/
section Rests
variable {σ τ : Sg}
theorem bOr0 {x : Int} (h : inR x) : bOr x 0 = x := by
  unfold bOr
  rw [show Int32.ofInt 0 = 0 from i32_0, Int32.or_zero]
  exact i32_t h
theorem p_rests (h : Inv σ τ) : Same1 (Td_rests σ) (Mo_rests τ) := by
  obtain ⟨-, -, -, -, -, -, g7⟩ := h.1.2.2.2.1
  have c : ∀ k, k < 4 → σ 30 k = τ 173 (725 + 2 * k) ∧ σ 30 (k + 4) = τ 173 (725 + 2 * k + 1) := g7
  have c0 := c 0 (by decide)
  have c1 := c 1 (by decide)
  have c2 := c 2 (by decide)
  have c3 := c 3 (by decide)
  have x02 : bXor 0 2 = 2 := by decide
  have x12 : bXor 1 2 = 3 := by decide
  have x22 : bXor 2 2 = 0 := by decide
  have x32 : bXor 3 2 = 1 := by decide
  have x01 : bXor 0 1 = 1 := by decide
  have x11 : bXor 1 1 = 0 := by decide
  have x21 : bXor 2 1 = 3 := by decide
  have x31 : bXor 3 1 = 2 := by decide
  simp only [Nat.reduceMul, Nat.reduceAdd, Nat.zero_add] at c0 c1 c2 c3
  have turn : ∀ (x k : Int) (p q r s : Nat), bXor k 2 = (p : Int) → bXor k 1 = (q : Int) → k = (r : Int) → p < 4 → q < 4 → r < 4 → inR x →
      ∃ y, inR y ∧ Td_rests_4_b σ x k = some (.inl (y, k + 1)) ∧ Mo_rests_4_b τ x k = some (.inl (y, k + 1)) := by
    intro x k p q r s hp hq hr h1 h2 h3 hx
    unfold Td_rests_4_b Mo_rests_4_b
    have d1 := c p h1
    have d2 := c q h2
    have d3 := c r h3
    rw [hp, hq, hr]
    have hr4 : (r : Int) < 4 := by omega
    simp only [if_pos hr4]
    simp only [ix_q (show (0 : Int) ≤ (p : Int) by omega) (show (p : Int) < 8 by omega), ix_q (show (0 : Int) ≤ (r : Int) by omega) (show (r : Int) < 8 by omega), ix_q (show (0 : Int) ≤ 4 + (q : Int) by omega) (show 4 + (q : Int) < 8 by omega), ix_q (show (0 : Int) ≤ 4 + (r : Int) by omega) (show 4 + (r : Int) < 8 by omega), ix_q (show (0 : Int) ≤ 725 + 2 * (p : Int) by omega) (show 725 + 2 * (p : Int) < 2217 by omega), ix_q (show (0 : Int) ≤ 725 + 2 * (r : Int) by omega) (show 725 + 2 * (r : Int) < 2217 by omega), ix_q (show (0 : Int) ≤ 725 + 2 * (q : Int) + 1 by omega) (show 725 + 2 * (q : Int) + 1 < 2217 by omega), ix_q (show (0 : Int) ≤ 725 + 2 * (r : Int) + 1 by omega) (show 725 + 2 * (r : Int) + 1 < 2217 by omega), ll_q, Int.toNat_natCast]
    simp only [show (4 + (q : Int)).toNat = q + 4 by omega, show (4 + (r : Int)).toNat = r + 4 by omega, show (725 + 2 * (p : Int)).toNat = 725 + 2 * p by omega, show (725 + 2 * (r : Int)).toNat = 725 + 2 * r by omega, show (725 + 2 * (q : Int) + 1).toNat = 725 + 2 * q + 1 by omega, show (725 + 2 * (r : Int) + 1).toNat = 725 + 2 * r + 1 by omega, d1.1, d3.1, d2.2, d3.2]
    rw [wr_q (n := (r : Int) + 1) (by omega) (by omega), bOr0 hx]
    by_cases e1 : τ 173 (725 + 2 * p) < τ 173 (725 + 2 * r)
    · rw [if_pos e1, if_pos e1, b1_q]
      refine ⟨x, hx, ?_, rfl⟩
      split <;> rw [b1_q, i00]
    · rw [if_neg e1, if_neg e1, b1_q]
      by_cases e2 : τ 173 (725 + 2 * q + 1) < τ 173 (725 + 2 * r + 1)
      · rw [if_pos e2, if_pos e2, b1_q, i10, i00]; exact ⟨x, hx, rfl, rfl⟩
      · rw [if_neg e2, if_neg e2, b1_q, i10, i10]; exact ⟨_, bOr_R _ _, rfl, rfl⟩
  have key := wl_two (B := fun p : Int × Int => Td_rests_4_b σ p.1 p.2) (B' := fun p : Int × Int => Mo_rests_4_b τ p.1 p.2) (fun p => (4 - p.2).toNat) (fun p q => p = q ∧ (0 ≤ p.2 ∧ p.2 ≤ 4) ∧ inR p.1) (fun r r' => r = r') (by
    rintro ⟨x, k⟩ ⟨x', k'⟩ ⟨e, h1, h2⟩
    cases e
    dsimp only at h1 h2 ⊢
    have hk : k = 0 ∨ k = 1 ∨ k = 2 ∨ k = 3 ∨ k = 4 := by omega
    rcases hk with rfl | rfl | rfl | rfl | rfl
    · right
      obtain ⟨y, q1, q2, q3⟩ := turn x 0 2 1 0 0 x02 x01 rfl (by decide) (by decide) (by decide) h2
      exact ⟨_, _, q2, q3, ⟨rfl, by dsimp only; omega, q1⟩, by dsimp only; omega⟩
    · right
      obtain ⟨y, q1, q2, q3⟩ := turn x 1 3 0 1 0 x12 x11 rfl (by decide) (by decide) (by decide) h2
      exact ⟨_, _, q2, q3, ⟨rfl, by dsimp only; omega, q1⟩, by dsimp only; omega⟩
    · right
      obtain ⟨y, q1, q2, q3⟩ := turn x 2 0 3 2 0 x22 x21 rfl (by decide) (by decide) (by decide) h2
      exact ⟨_, _, q2, q3, ⟨rfl, by dsimp only; omega, q1⟩, by dsimp only; omega⟩
    · right
      obtain ⟨y, q1, q2, q3⟩ := turn x 3 1 2 3 0 x32 x31 rfl (by decide) (by decide) (by decide) h2
      exact ⟨_, _, q2, q3, ⟨rfl, by dsimp only; omega, q1⟩, by dsimp only; omega⟩
    · left
      refine ⟨x, x, ?_, ?_, rfl⟩
      · unfold Td_rests_4_b; rw [if_neg (by decide)]
      · unfold Mo_rests_4_b; rw [if_neg (by decide)]) (0, 0) (0, 0) ⟨rfl, by dsimp only; omega, by exact ⟨by decide, by decide⟩⟩
  obtain ⟨r, r', h1, h2, h3⟩ := key
  exact ⟨r, h1, by rw [h3]; exact h2⟩
end Rests
