section Feed2
variable {σ τ : Sg}
theorem p_feed (h : Inv σ τ) (a b c d e : Int) : Same2 (Td_feed a b c d e σ) (Mo_feed a b c d e τ) := by
  have h0 := h
  obtain ⟨⟨hT, hW, hM, hS, hB⟩, hP, hI, hR⟩ := h
  obtain ⟨r1, r2, r3, r4, r5⟩ := hR
  unfold Td_feed Mo_feed Re_hasRoom
  rw [r1, wr_q (by omega) (by omega)]
  by_cases hf : 400 < τ 172 16 + 20
  · rw [if_pos hf, if_pos hf, b1_q, i00]; exact ⟨_, _, _, rfl, rfl, h0⟩
  · rw [if_neg hf, if_neg hf, b1_q, i10]
    obtain ⟨σ1, a1, a2, a3, a4, a5⟩ := appendC (σ := σ) a (by omega) (by omega)
    obtain ⟨σ2, b1', b2', b3', b4', b5'⟩ := appendC (σ := σ1) b (by omega) (by omega)
    obtain ⟨σ3, c1, c2, c3, c4, c5⟩ := appendC (σ := σ2) c (by omega) (by omega)
    obtain ⟨σ4, d1, d2, d3, d4, d5⟩ := appendC (σ := σ3) d (by omega) (by omega)
    obtain ⟨σ5, e1, e2, e3, e4, e5⟩ := appendC (σ := σ4) e (by omega) (by omega)
    obtain ⟨τ', m1, m2, m3, m4, m5⟩ := fdM a b c d e 20 0 τ rfl (by omega) (by omega)
    rw [a1, b1_q, b1', b1_q, c1, b1_q, d1, b1_q, e1, b1_q]
    have l5 : σ5 141 1 = τ 172 16 + 20 := by omega
    have hc : ∀ k, k ≠ 141 → k ≠ 145 → σ5 k = σ k := fun k x y => by rw [e4 k x y, d4 k x y, c4 k x y, b4' k x y, a4 k x y]
    have hj : ∀ j, j ≠ 1 → σ5 141 j = σ 141 j := fun j x => by rw [e5 j x, d5 j x, c5 j x, b5' j x, a5 j x]
    have m1' : Mo_feed_18_w a b c d e 0 τ = some (τ 172 16 + 20, τ') := m1
    rw [l5, m1']
    refine ⟨_, _, _, rfl, rfl, ⟨?_, ?_, ?_, ?_, ?_⟩, ?_, ?_, ?_⟩
    · rw [m4 173 (by decide) (by decide)]; exact TR.agr hT hW.2.2.1 (fun k _ _ _ => hc k (by omega) (by omega)) (fun _ _ _ => rfl)
    · rw [m4 173 (by decide) (by decide)]; exact hW
    · rw [m4 173 (by decide) (by decide)]; exact hM
    · rw [m4 173 (by decide) (by decide)]; exact WS.agr hS (fun _ _ _ => rfl) (fun _ _ _ => rfl) (fun k _ => hc k (by omega) (by omega)) (by rw [hc 1 (by decide) (by decide)])
    · rw [m4 173 (by decide) (by decide), hc _ (by decide) (by decide)]; exact hB
    · exact PS.agr hP (fun k _ _ => hc k (by omega) (by omega)) (m5 4 (by decide)) (m4 175 (by decide) (by decide)) (by rw [m4 173 (by decide) (by decide)]; exact Int.le_refl _) (fun j _ => by rw [m4 173 (by decide) (by decide)])
    · exact IM.agr hI (by rw [hc 0 (by decide) (by decide)]) (fun k _ _ => hc k (by omega) (by omega)) (m5 5 (by decide)) (m4 174 (by decide) (by decide))
    · refine ⟨by rw [l5, m2]; rfl, by rw [m2]; omega, fun j hjl => ?_, by rw [hj 2 (by decide), m5 23 (by decide)]; exact r4, by rw [hj 3 (by decide), m5 25 (by decide)]; exact r5⟩
      rw [m2] at hjl
      obtain ⟨n, hn⟩ := Int.eq_ofNat_of_zero_le r2.1
      have n0 : σ 141 1 = (n : Int) := by omega
      have n1 : σ1 141 1 = ((n + 4 : Nat) : Int) := by omega
      have n2 : σ2 141 1 = ((n + 8 : Nat) : Int) := by omega
      have n3 : σ3 141 1 = ((n + 12 : Nat) : Int) := by omega
      have n4 : σ4 141 1 = ((n + 16 : Nat) : Int) := by omega
      rw [m3 j, hn, e3 j, n4, d3 j, n3, c3 j, n2, b3' j, n1, a3 j, n0]
      simp only [Int.toNat_natCast, Nat.zero_add]
      by_cases q0 : j < n
      · rw [if_neg (by omega), if_neg (by omega), if_neg (by omega), if_neg (by omega), if_neg (by omega), if_neg (by omega)]
        exact r3 j (by omega)
      · rw [if_pos (c := (n : Int) ≤ (j : Int) ∧ (j : Int) < (n : Int) + ((20 : Nat) : Int)) (by omega)]
        have fin : ∀ (x : Int) (i : Nat), x = twF a b c d e (j - n) → x = twF a b c d e (j - n) ∧ 0 ≤ twF a b c d e (j - n) ∧ twF a b c d e (j - n) ≤ 255 := fun x i hx => ⟨hx, byF_in _ _⟩
        refine fin _ 0 ?_
        unfold twF
        by_cases q4 : n + 16 ≤ j
        · rw [if_pos (by omega), if_neg (by omega), if_neg (by omega), if_neg (by omega), if_neg (by omega), show (j - n) % 4 = j - (n + 16) by omega]
        rw [if_neg (c := ((n + 16 : Nat) : Int) ≤ (j : Int) ∧ _) (by omega)]
        by_cases q3 : n + 12 ≤ j
        · rw [if_pos (by omega), if_neg (by omega), if_neg (by omega), if_neg (by omega), if_pos (by omega), show (j - n) % 4 = j - (n + 12) by omega]
        rw [if_neg (c := ((n + 12 : Nat) : Int) ≤ (j : Int) ∧ _) (by omega)]
        by_cases q2 : n + 8 ≤ j
        · rw [if_pos (by omega), if_neg (by omega), if_neg (by omega), if_pos (by omega), show (j - n) % 4 = j - (n + 8) by omega]
        rw [if_neg (c := ((n + 8 : Nat) : Int) ≤ (j : Int) ∧ _) (by omega)]
        by_cases q1 : n + 4 ≤ j
        · rw [if_pos (by omega), if_neg (by omega), if_pos (by omega), show (j - n) % 4 = j - (n + 4) by omega]
        · rw [if_neg (c := ((n + 4 : Nat) : Int) ≤ (j : Int) ∧ _) (by omega), if_pos (by omega), if_pos (by omega), show (j - n) % 4 = j - n by omega]
end Feed2
