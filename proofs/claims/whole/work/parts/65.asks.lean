/-! asks -/
section Asks
variable {σ τ : Sg}
def woF (F : Nat → Int) (word : Int) : Int := if word = 0 then F 3 else if word = 1 then wr (Int.tdiv (F 4) 2 + 1) else if word = 2 then F 5 else if word = 3 then wr (5 * F 6) else 900
/-- what the law tells for a word, held to its bounds -/
def tvF (w F : Nat → Int) (word : Int) : Int := max (mLo word.toNat) (min (mHi word.toNat) (tlF w F word (woF F word) 0 (w 550).toNat))
theorem tvC {w F : Nat → Int} (h : LR (σ 17) (σ 18) (σ 19) w) (hF : ∀ j, j < 10 → σ 150 j = F (j + 1)) {word : Int} (hw : 0 ≤ word ∧ word ≤ 4) : ∃ σ', Ju_tells 17 word σ = some (tvF w F word, σ') ∧ sameJ σ σ' := by
  refine tellsC h hF hw ?_
  unfold Ju_untold woF
  rw [hF 2 (by decide), hF 3 (by decide), hF 4 (by decide), hF 5 (by decide)]
  repeat' (first | rfl | split)
theorem tvM {s c d : Nat → Int} (h : LR s c d (τ 173)) : (∃ τ', Mo_delayNow τ = some (tvF (τ 173) (τ 182) 0, τ') ∧ ∀ k, k ≠ 181 → τ' k = τ k) ∧ (∃ τ', Mo_lastsNow τ = some (tvF (τ 173) (τ 182) 1, τ') ∧ ∀ k, k ≠ 181 → τ' k = τ k) ∧ (∃ τ', Mo_kissNow τ = some (tvF (τ 173) (τ 182) 2, τ') ∧ ∀ k, k ≠ 181 → τ' k = τ k) ∧ (∃ τ', Mo_hurtNow τ = some (tvF (τ 173) (τ 182) 3, τ') ∧ ∀ k, k ≠ 181 → τ' k = τ k) ∧ (∃ τ', Mo_goNow τ = some (tvF (τ 173) (τ 182) 4, τ') ∧ ∀ k, k ≠ 181 → τ' k = τ k) := by
  refine ⟨?_, ?_, ?_, ?_, ?_⟩
  · obtain ⟨τ', g1, g2⟩ := saysM h (word := 0) (wo := τ 182 3) (lo := 1) (hi := 999)
    exact ⟨τ', by unfold Mo_delayNow; rw [show (20 : Int) = 0 + 20 from rfl, g1, b2_q]; rfl, g2⟩
  · obtain ⟨τ', g1, g2⟩ := saysM h (word := 1) (wo := wr (Int.tdiv (τ 182 4) 2 + 1)) (lo := 1) (hi := 99)
    exact ⟨τ', by unfold Mo_lastsNow; rw [show (21 : Int) = 1 + 20 from rfl, g1, b2_q]; rfl, g2⟩
  · obtain ⟨τ', g1, g2⟩ := saysM h (word := 2) (wo := τ 182 5) (lo := 0) (hi := 9)
    exact ⟨τ', by unfold Mo_kissNow; rw [show (22 : Int) = 2 + 20 from rfl, g1, b2_q]; rfl, g2⟩
  · obtain ⟨τ', g1, g2⟩ := saysM h (word := 3) (wo := wr (5 * τ 182 6)) (lo := -50) (hi := 50)
    exact ⟨τ', by unfold Mo_hurtNow; rw [show (23 : Int) = 3 + 20 from rfl, g1, b2_q]; rfl, g2⟩
  · obtain ⟨τ', g1, g2⟩ := saysM h (word := 4) (wo := 900) (lo := 0) (hi := 1000)
    exact ⟨τ', by unfold Mo_goNow; rw [show (24 : Int) = 4 + 20 from rfl, g1, b2_q]; rfl, g2⟩
theorem goesTo_q {i : Nat} (hi : i < 60) (h : mW (τ 173) i 0 = 0 ∨ mW (τ 173) i 0 = 1) : Mo_goesTo (i : Int) τ = some (1 - mW (τ 173) i 0) := by
  unfold Mo_goesTo; rw [of_0 hi, b1_q, wr_q (by omega) (by omega)]
theorem laysMsgM {s c : Nat → Int} (hH : HR s c (τ 173)) (hW : WF (τ 173)) {i : Nat} (hi : (i : Int) < τ 173 3) : ∃ τ', Mo_laysMessage (i : Int) τ = some τ' ∧ (∀ c, c ≠ 182 → τ' c = τ c) ∧ ∀ j, 1 ≤ j → j ≤ 10 → τ' 182 j = fcF (τ 173) (1 - mW (τ 173) i 0) (mW (τ 173) i 3) (mW (τ 173) i 4) (mW (τ 173) i 5) j := by
  have h60 := hW.2.2.1
  obtain ⟨m0, -⟩ := hW.2.2.2.2 i hi
  obtain ⟨τ', g1, g2, g3⟩ := laysM hH hW.1.1 (one := 1 - mW (τ 173) i 0) (by omega) (mW (τ 173) i 3) (mW (τ 173) i 4) (mW (τ 173) i 5)
  refine ⟨τ', ?_, g2, g3⟩
  unfold Mo_laysMessage
  rw [goesTo_q (by omega) m0, b1_q, of_3 (by omega), b1_q, of_4 (by omega), b1_q, of_5 (by omega), b1_q, g1, b1_q]
theorem p_asks (h : Inv σ τ) (a b : Int) : Same2 (Td_asks a b σ) (Mo_asks a b τ) := by
  have h0 := h
  obtain ⟨⟨hT, hW, hM, hS, hB⟩, hP, hI, hR⟩ := h
  have hT : TR 2 σ (τ 173) := hT
  have h60 := hW.2.2.1
  have hH : HR (σ 20) (σ 21) (τ 173) := hS.2.1
  have hL : LR (σ 17) (σ 18) (σ 19) (τ 173) := hS.2.2.2.2.1
  have hK : ∀ j, j < 2 → σ (2 + 3) j = τ 173 (548 + j) := fun j hj => (hS.1 j hj).1
  unfold Td_asks Mo_asks
  rw [has_q hT, isMsg_q h60, within_q]
  simp only [b1_q]
  by_cases ha : 0 ≤ a ∧ a < τ 173 3
  · obtain ⟨i, rfl⟩ := Int.eq_ofNat_of_zero_le ha.1
    obtain ⟨m0, -⟩ := hW.2.2.2.2 i ha.2
    obtain ⟨g0, -, -, g3, g4, g5, -⟩ := hT.g ha.2
    obtain ⟨τ1, e1, e2, e3⟩ := laysMsgM hH hW ha.2
    rw [if_pos ha, i10, i10, e1, b1_q]
    by_cases hb : 0 ≤ b ∧ b ≤ 4
    · rw [if_pos hb, i10]
      obtain ⟨σ1, σ2, s1, s2, s3, s4, s5⟩ := sitC (t := 2) (Or.inl rfl) hT hK hH hW.1.1 (one := 1 - mW (τ 173) i 0) (by omega) (mW (τ 173) i 3) (mW (τ 173) i 4) (mW (τ 173) i 5)
      have hL2 : LR (σ2 17) (σ2 18) (σ2 19) (τ 173) := by rw [s4 17 (by decide), s4 18 (by decide), s4 19 (by decide)]; exact hL
      have f9 : σ1 9 i = mW (τ 173) i 3 := by rw [s3 9 (by decide)]; exact g3
      have f10 : σ1 10 i = mW (τ 173) i 4 := by rw [s3 10 (by decide)]; exact g4
      have f11 : σ1 11 i = mW (τ 173) i 5 := by rw [s3 11 (by decide)]; exact g5
      have g0' : σ 6 i = mW (τ 173) i 0 := g0
      obtain ⟨σ3, t1, t2⟩ := tvC (F := τ1 182) hL2 (fun j hj => by rw [s5 j hj, e3 (j + 1) (by omega) (by omega)]) hb
      rw [ix_q (by omega) (by omega), Int.toNat_natCast, g0', wr_q (by omega) (by omega), s1, b1_q, ix_q (by omega) (by omega), ix_q (by omega) (by omega), ix_q (by omega) (by omega), f9, f10, f11, s2, b1_q, t1, b2_q]
      have hw1 : τ1 173 = τ 173 := e2 173 (by decide)
      have hLM : LR (σ 17) (σ 18) (σ 19) (τ1 173) := by rw [hw1]; exact hL
      have fin : ∀ τ2 : Sg, (∀ k, k ≠ 181 → τ2 k = τ1 k) → Inv σ3 τ2 := by
        intro τ2 he
        have hc : ∀ c, c ≠ 149 → c ≠ 150 → c ≠ 151 → σ3 c = σ c := fun c a b d => by rw [t2.1 c d a, s4 c b]
        exact h0.scr (fun k hk => hc k (by omega) (by omega) (by omega)) (by rw [hc 141 (by decide) (by decide) (by decide)]) (by rw [hc 141 (by decide) (by decide) (by decide)]) (by rw [hc 141 (by decide) (by decide) (by decide)]) (fun k hk => by rw [he k (by omega), e2 k (by omega)]) (fun j _ => by rw [he 172 (by decide), e2 172 (by decide)])
      obtain ⟨⟨u0, v0, z0⟩, ⟨u1, v1, z1⟩, ⟨u2, v2, z2⟩, ⟨u3, v3, z3⟩, ⟨u4, v4, z4⟩⟩ := tvM hLM
      rw [hw1] at v0 v1 v2 v3 v4
      have hn : b = 0 ∨ b = 1 ∨ b = 2 ∨ b = 3 ∨ b = 4 := by omega
      rcases hn with rfl | rfl | rfl | rfl | rfl
      · exact ⟨_, _, u0, rfl, by rw [if_pos rfl, v0, b2_q], fin _ z0⟩
      · exact ⟨_, _, u1, rfl, by rw [if_neg (by decide), if_pos rfl, v1, b2_q], fin _ z1⟩
      · exact ⟨_, _, u2, rfl, by rw [if_neg (by decide), if_neg (by decide), if_pos rfl, v2, b2_q], fin _ z2⟩
      · exact ⟨_, _, u3, rfl, by rw [if_neg (by decide), if_neg (by decide), if_neg (by decide), if_pos rfl, v3, b2_q], fin _ z3⟩
      · exact ⟨_, _, u4, rfl, by rw [if_neg (by decide), if_neg (by decide), if_neg (by decide), if_neg (by decide), if_pos rfl, v4, b2_q], fin _ z4⟩
    · rw [if_neg hb, i00, if_neg (by omega), if_neg (by omega), if_neg (by omega), if_neg (by omega), if_neg (by omega)]
      exact ⟨_, _, _, rfl, rfl, h0.scr (fun _ _ => rfl) rfl rfl rfl (fun k hk => e2 k (by omega)) (fun j _ => by rw [e2 172 (by decide)])⟩
  · rw [if_neg ha, i00, i00]; exact ⟨_, _, _, rfl, rfl, h0⟩
end Asks
