/-! copies: where the delays come round -/
section Copies
variable {σ τ : Sg}
def rpt (d : Nat → Int) (i j : Nat) : Prop := 1 ≤ j ∧ j < i ∧ ((i : Int) - j) % 2 = 0 ∧ d j = d i
theorem rpt_one {d : Nat → Int} {i a b : Nat} (hn : ∀ x y, x < i → ¬ rpt d x y) (ha : rpt d i a) (hb : rpt d i b) : a = b := by
  unfold rpt at ha hb hn
  rcases Nat.lt_trichotomy a b with h | h | h
  · exact absurd ⟨ha.1, h, by omega, by rw [ha.2.2.2, hb.2.2.2]⟩ (hn b a hb.2.1)
  · exact h
  · exact absurd ⟨hb.1, h, by omega, by rw [ha.2.2.2, hb.2.2.2]⟩ (hn a b ha.2.1)
/-- the class: back from a place, by twos -/
theorem crC (a : Int) {i : Nat} (hi : 1 ≤ i ∧ i ≤ 60) : ∀ (n : Nat) (k : Int), k ≤ n → k ≤ (i : Int) - 2 → -1 ≤ k → ((i : Int) - k) % 2 = 0 → (∃ b, rpt (σ 171) i b ∧ Td_comesRound_12_w (i : Int) σ a k = some (.inr (if a = 0 then (i : Int) else (i : Int) - b))) ∨ ((∀ b : Nat, (b : Int) ≤ k → ¬ rpt (σ 171) i b) ∧ Td_comesRound_12_w (i : Int) σ a k = some (.inl ((i : Int) + 1)))
  | 0, k, h0, h1, h2, h3 => by
    right
    refine ⟨fun b hb hr => (by unfold rpt at hr; omega), wl_end ?_⟩
    show Td_comesRound_12_b (i : Int) σ a k = _
    unfold Td_comesRound_12_b
    rw [if_pos (by omega), ll_q, wr_q (by omega) (by omega)]
  | n + 1, k, h0, h1, h2, h3 => by
    by_cases hk : k < 1
    · right
      refine ⟨fun b hb hr => (by unfold rpt at hr; omega), wl_end ?_⟩
      show Td_comesRound_12_b (i : Int) σ a k = _
      unfold Td_comesRound_12_b
      rw [if_pos (by omega), ll_q, wr_q (by omega) (by omega)]
    · obtain ⟨j, rfl⟩ := Int.eq_ofNat_of_zero_le (a := k) (by omega)
      by_cases he : σ 171 i = σ 171 j
      · left
        refine ⟨j, ⟨by omega, by omega, h3, he.symm⟩, wl_end ?_⟩
        show Td_comesRound_12_b (i : Int) σ a (j : Int) = _
        unfold Td_comesRound_12_b
        rw [if_neg (by omega), ix_q (by omega) (by omega), ix_q (by omega) (by omega), Int.toNat_natCast, Int.toNat_natCast, if_pos he, wr_q (by omega) (by omega)]
        by_cases ha : a = 0
        · rw [if_pos ha, if_pos ha]
        · rw [if_neg ha, if_neg ha]
      · have step : Td_comesRound_12_w (i : Int) σ a (j : Int) = Td_comesRound_12_w (i : Int) σ a ((j : Int) - 2) := by
          refine wl_go ?_
          show Td_comesRound_12_b (i : Int) σ a (j : Int) = _
          unfold Td_comesRound_12_b
          rw [if_neg (by omega), ix_q (by omega) (by omega), ix_q (by omega) (by omega), Int.toNat_natCast, Int.toNat_natCast, if_neg he, ll_q, wr_q (by omega) (by omega), show (j : Int) + -2 = j - 2 by omega]
        rw [step]
        rcases crC a hi n ((j : Int) - 2) (by omega) (by omega) (by omega) (by omega) with h | ⟨h, h'⟩
        · left; exact h
        · right
          refine ⟨fun b hb hr => ?_, h'⟩
          by_cases hbj : b = j
          · rw [hbj] at hr; exact he hr.2.2.2.symm
          · by_cases hb1 : (b : Int) = j - 1
            · unfold rpt at hr; omega
            · exact h b (by omega) hr
/-- the reference: up to a place -/
theorem crM (r : Int) {i : Nat} (hi : 1 ≤ i ∧ i ≤ 60) (hn : ∀ x y, x < i → ¬ rpt (τ 184) x y) : ∀ (n k : Nat), 1 ≤ k → k + n = i → (∀ b, b < k → ¬ rpt (τ 184) i b) → (∃ b, rpt (τ 184) i b ∧ Mo_copies_114_w (i : Int) τ r (-1) (-1) (k : Int) = some (.inl (r, (i : Int), (i : Int) - b, (i : Int) + 1, τ))) ∨ ((∀ b, ¬ rpt (τ 184) i b) ∧ Mo_copies_114_w (i : Int) τ r (-1) (-1) (k : Int) = some (.inl (r, -1, -1, (i : Int) + 1, τ)))
  | 0, k, h0, h1, h2 => by
    right
    refine ⟨fun b hr => ?_, wl_end ?_⟩
    · by_cases hb : b < k
      · exact h2 b hb hr
      · unfold rpt at hr; omega
    · show Mo_copies_114_b (i : Int) τ r (-1) (-1) (k : Int) = _
      unfold Mo_copies_114_b
      rw [if_neg (by omega), ll_q, wr_q (by omega) (by omega)]
  | n + 1, k, h0, h1, h2 => by
    by_cases hp : ((i : Int) - k) % 2 = 0
    · by_cases he : τ 184 k = τ 184 i
      · left
        refine ⟨k, ⟨h0, by omega, hp, he⟩, ?_⟩
        have s1 : Mo_copies_114_w (i : Int) τ r (-1) (-1) (k : Int) = Mo_copies_114_w (i : Int) τ r (i : Int) ((i : Int) - k) ((k : Int) + 1) := by
          refine wl_go ?_
          show Mo_copies_114_b (i : Int) τ r (-1) (-1) (k : Int) = _
          unfold Mo_copies_114_b
          rw [if_pos (by omega), if_pos rfl, wr_q (n := (i : Int) - k) (by omega) (by omega), Int.tmod_eq_emod_of_nonneg (by omega), if_neg (by omega), ix_q (by omega) (by omega), ix_q (by omega) (by omega), Int.toNat_natCast, Int.toNat_natCast, if_pos he, ll_q, ll_q, wr_q (by omega) (by omega)]
        rw [s1]
        refine wl_end ?_
        show Mo_copies_114_b (i : Int) τ r (i : Int) ((i : Int) - k) ((k : Int) + 1) = _
        unfold Mo_copies_114_b
        by_cases hk : (k : Int) + 1 < i
        · rw [if_pos hk, if_neg (by omega), ll_q, wr_q (by omega) (by omega)]
        · rw [if_neg hk, ll_q, wr_q (by omega) (by omega)]
      · have s1 : Mo_copies_114_w (i : Int) τ r (-1) (-1) (k : Int) = Mo_copies_114_w (i : Int) τ r (-1) (-1) ((k + 1 : Nat) : Int) := by
          refine wl_go ?_
          show Mo_copies_114_b (i : Int) τ r (-1) (-1) (k : Int) = _
          unfold Mo_copies_114_b
          rw [if_pos (by omega), if_pos rfl, wr_q (n := (i : Int) - k) (by omega) (by omega), Int.tmod_eq_emod_of_nonneg (by omega), if_neg (by omega), ix_q (by omega) (by omega), ix_q (by omega) (by omega), Int.toNat_natCast, Int.toNat_natCast, if_neg he, ll_q, wr_q (by omega) (by omega)]
          rfl
        rw [s1]
        exact crM r hi hn n (k + 1) (by omega) (by omega) (fun b hb hr => by
          by_cases hbk : b = k
          · rw [hbk] at hr; exact he hr.2.2.2
          · exact h2 b (by omega) hr)
    · have s1 : Mo_copies_114_w (i : Int) τ r (-1) (-1) (k : Int) = Mo_copies_114_w (i : Int) τ r (-1) (-1) ((k + 1 : Nat) : Int) := by
        refine wl_go ?_
        show Mo_copies_114_b (i : Int) τ r (-1) (-1) (k : Int) = _
        unfold Mo_copies_114_b
        rw [if_pos (by omega), if_pos rfl, wr_q (n := (i : Int) - k) (by omega) (by omega), Int.tmod_eq_emod_of_nonneg (by omega), if_pos (by omega), ll_q, wr_q (by omega) (by omega)]
        rfl
      rw [s1]
      exact crM r hi hn n (k + 1) (by omega) (by omega) (fun b hb hr => by
        by_cases hbk : b = k
        · rw [hbk] at hr; exact hp hr.2.2.1
        · exact h2 b (by omega) hr)
end Copies
