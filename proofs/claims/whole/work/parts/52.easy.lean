/-! the calls that are soon told -/
def Same1 (o o' : Option Int) : Prop := ∃ r, o = some r ∧ o' = some r
def Same2 (o o' : Option (Int × Sg)) : Prop := ∃ r σ τ, o = some (r, σ) ∧ o' = some (r, τ) ∧ Inv σ τ
theorem i10 {α : Type} {a b : α} : (if (1 : Int) = 0 then a else b) = b := if_neg (by decide)
theorem i00 {α : Type} {a b : α} : (if (0 : Int) = 0 then a else b) = a := if_pos rfl
section Easy
variable {σ τ : Sg}
theorem p_fault (h : Inv σ τ) (a : Int) : Same1 (Td_fault a σ) (Mo_fault a τ) := by
  obtain ⟨-, -, -, h1, h2, h3, h4, h5⟩ := h
  unfold Td_fault Mo_fault
  rw [h4, h5]
  split
  · exact ⟨_, rfl, rfl⟩
  · split <;> exact ⟨_, rfl, rfl⟩
theorem hour_q (h : TR 2 σ (τ 173)) : Ta_hour 2 σ = some (Int.tmod (Int.tdiv (τ 173 0) 60) 24) := by unfold Ta_hour; rw [h.1]
theorem p_look (h : Inv σ τ) (a : Int) : Same1 (Td_look a σ) (Mo_look a τ) := by
  obtain ⟨⟨hT, hW, hM, hS, hB⟩, hP, hI, hR⟩ := h
  obtain ⟨g1, g2, g3, g4, g5, g6, g7⟩ := hS
  unfold Td_look Mo_look Mo_hourNow Wo_signs
  rw [hour_q hT, hT.1, hT.2.1, hT.2.2.1, hT.2.2.2.1, g5.1, g2.1, g3.1, g4.1, g6.1, hP.1]
  simp only [b1_q]
  repeat' (first | exact ⟨_, rfl, rfl⟩ | split)
theorem has_q {t : Nat} {w : Nat → Int} (h : TR t σ w) (a : Int) : Ta_has t a σ = some (if 0 ≤ a ∧ a < w 3 then 1 else 0) := by
  unfold Ta_has; rw [h.2.2.1]
  by_cases h1 : a < 0
  · rw [if_pos h1, if_neg (by omega)]
  · rw [if_neg h1]
    by_cases h2 : a < w 3
    · rw [if_pos h2, if_pos (by omega)]
    · rw [if_neg h2, if_neg (by omega)]
theorem isMsg_q (h : 0 ≤ τ 173 3 ∧ τ 173 3 ≤ 60) (a : Int) : Mo_isMessage a τ = some (if 0 ≤ a ∧ a < τ 173 3 then 1 else 0) := by
  unfold Mo_isMessage
  rw [wr_q (by omega) (by omega), isIn_q, b1_q]
  congr 1
  by_cases h1 : 0 ≤ a ∧ a < τ 173 3
  · rw [if_pos h1, if_pos (by omega)]
  · rw [if_neg h1, if_neg (by omega)]
theorem of0_q {i f : Nat} (hi : i < 60) (hf : f < 9) : Mo_of0 (i : Int) (f : Int) τ = some (mW (τ 173) i f) := by
  unfold Mo_of0
  rw [ix_q (by omega) (by omega), show ((8 + 9 * (i : Int)) + (f : Int)).toNat = 8 + 9 * i + f by omega]; rfl
theorem p_message (h : Inv σ τ) (a b : Int) : Same1 (Td_message a b σ) (Mo_message a b τ) := by
  obtain ⟨⟨hT, hW, hM, hS, hB⟩, hP, hI, hR⟩ := h
  have h60 := hW.2.2.1
  unfold Td_message Mo_message
  rw [has_q hT, isMsg_q h60, b1_q, b1_q]
  by_cases h : 0 ≤ a ∧ a < τ 173 3
  · obtain ⟨i, rfl⟩ := Int.eq_ofNat_of_zero_le h.1
    rw [if_pos h, i10, i10, isIn_q, b1_q]
    have key := fun f hf => hT.2.2.2.2.2.2.2 i f h.2 hf
    by_cases hf : 0 ≤ b ∧ b ≤ 8
    · obtain ⟨f, rfl⟩ := Int.eq_ofNat_of_zero_le hf.1
      rw [if_pos hf, i10, of0_q (by omega) (by omega), b1_q, ← key f (by omega)]
      have hi : (Int.toNat (i : Int)) = i := Int.toNat_natCast i
      have hc : f = 0 ∨ f = 1 ∨ f = 2 ∨ f = 3 ∨ f = 4 ∨ f = 5 ∨ f = 6 ∨ f = 7 ∨ f = 8 := by omega
      rcases hc with rfl | rfl | rfl | rfl | rfl | rfl | rfl | rfl | rfl <;> (simp only [ix_q (show (0 : Int) ≤ (i : Int) by omega) (show (i : Int) < 60 by omega), hi]; exact ⟨_, rfl, rfl⟩)
    · rw [if_neg hf, i00, if_neg (by omega), if_neg (by omega), if_neg (by omega), if_neg (by omega), if_neg (by omega), if_neg (by omega), if_neg (by omega), if_neg (by omega), if_neg (by omega)]
      exact ⟨_, rfl, rfl⟩
  · rw [if_neg h, i00, i00]; exact ⟨_, rfl, rfl⟩
theorem p_book (h : Inv σ τ) (a b : Int) : Same1 (Td_book a b σ) (Mo_book a b τ) := by
  obtain ⟨⟨hT, hW, hM, hS, hB⟩, hP, hI, hR⟩ := h
  have h2 := hW.2.1
  unfold Td_book Mo_book
  rw [hT.2.2.2.1, within_q, within_q, isIn_q, isIn_q]
  simp only [b1_q]
  rw [wr_q (by omega) (by omega)]
  by_cases h : 0 ≤ a ∧ a ≤ τ 173 2 - 1
  · rw [if_pos h, i10, i10]
    by_cases hb : 0 ≤ b ∧ b ≤ 3
    · rw [if_pos hb, i10, i10, ix_q (by omega) (by omega), ix_q (by omega) (by omega)]
      refine ⟨_, rfl, ?_⟩
      rw [show (733 + 4 * a + b).toNat = 733 + (a * 4 + b).toNat by omega]
      exact congrArg some (hB _ (by omega)).symm
    · rw [if_neg hb, i00, i00]; exact ⟨_, rfl, rfl⟩
  · rw [if_neg h, i00, i00]; exact ⟨_, rfl, rfl⟩
theorem p_state (h : Inv σ τ) (a : Int) : Same2 (Td_state a σ) (Mo_state a τ) := by
  obtain ⟨⟨hT, hW, hM, hS, hB⟩, hP, hI, hR⟩ := h
  unfold Td_state Mo_state Pa_forget Mo_forgets
  simp only [ll_q, b1_q]
  refine ⟨_, _, _, rfl, by rw [hT.2.1], ?_⟩
  have e : su (su τ 173 1 a) 172 4 0 173 = up (τ 173) 1 a := by rw [su_c (by decide), su_s]
  have ag : agr 2 2217 (τ 173) (up (τ 173) 1 a) := fun j _ _ => up_n (by omega)
  refine ⟨⟨?_, ?_, ?_, ?_, ?_⟩, ?_, ?_, ?_⟩
  · rw [e]
    exact TR.agr hT.stateS (by rw [up_n (by decide)]; exact hW.2.2.1) (fun k _ _ _ => su_c (by omega)) (fun _ _ _ => rfl)
  · rw [e]
    obtain ⟨w1, w2, w3, w4, w5⟩ := hW
    refine ⟨by rw [up_n (by decide)]; exact w1, by rw [up_n (by decide)]; exact w2, by rw [up_n (by decide)]; exact w3, fun j hj => by rw [up_n (by omega), up_n (by omega)]; exact w4 j hj, fun i hi => ?_⟩
    rw [up_n (by decide)] at hi
    have h5 := w5 i hi
    unfold MF at h5 ⊢
    simp only [mW_low (show (1 : Nat) < 8 by decide)]
    rw [up_n (by decide)]
    exact h5
  · rw [e, up_n (by decide)]; exact hM
  · rw [e]
    exact WS.agr hS (fun j _ _ => up_n (by omega)) (fun j _ _ => up_n (by omega)) (fun k _ => by rw [su_c (by omega), su_c (by omega)]) (by rw [su_c (by decide), su_c (by decide)])
  · rw [e]
    exact BK.agr hB hW.2.1 (by rw [su_c (by decide), su_c (by decide)]) (up_n (by decide)) (fun j _ _ => up_n (by omega))
  · refine PS.none (by rw [su_s, up_a]) (by rw [su_s, up_a]) ?_
    rw [su_s, up_n (by decide), su_c (by decide)]; exact hP.2.2.1
  · exact IM.agr hI (by rw [su_c (by decide), su_c (by decide)]) (fun k _ _ => by rw [su_c (by omega), su_c (by omega)]) (by rw [su_s, up_n (by decide), su_c (by decide)]) (by rw [su_c (by decide), su_c (by decide)])
  · exact RD.agr hR (by rw [su_c (by decide), su_c (by decide)]) (by rw [su_c (by decide), su_c (by decide)]) (by rw [su_c (by decide), su_c (by decide)]) (by rw [su_c (by decide), su_c (by decide)]) (by rw [su_s, up_n (by decide), su_c (by decide)]) (by rw [su_s, up_n (by decide), su_c (by decide)]) (by rw [su_s, up_n (by decide), su_c (by decide)]) (by rw [su_c (by decide), su_c (by decide)])
theorem p_end (h : Inv σ τ) (a : Int) : Same2 (Td_end a σ) (Mo_end a τ) := by
  have h0 := h
  obtain ⟨⟨hT, hW, hM, hS, hB⟩, hP, hI, hR⟩ := h
  unfold Td_end Mo_end
  rw [within_q, isIn_q, hR.1, b1_q, b1_q]
  by_cases hc : 0 ≤ a ∧ a ≤ τ 172 16
  · rw [if_pos hc, i10, i10, ll_q, ll_q]
    refine ⟨_, _, _, rfl, rfl, ⟨?_, ?_, ?_, ?_, ?_⟩, ?_, ?_, ?_⟩
    · rw [su_c (by decide)]; exact TR.agr hT hW.2.2.1 (fun k _ _ _ => su_c (by omega)) (fun _ _ _ => rfl)
    · rw [su_c (by decide)]; exact hW
    · rw [su_c (by decide)]; exact hM
    · rw [su_c (by decide)]; exact WS.agr hS (fun _ _ _ => rfl) (fun _ _ _ => rfl) (fun k _ => su_c (by omega)) (by rw [su_c (by decide)])
    · rw [su_c (by decide), su_c (by decide)]; exact hB
    · exact PS.agr hP (fun k _ _ => su_c (by omega)) (by rw [su_s, up_n (by decide)]) (su_c (by decide)) (by rw [su_c (by decide)]; exact Int.le_refl _) (fun j _ => by rw [su_c (by decide)])
    · exact IM.agr hI (by rw [su_c (by decide)]) (fun k _ _ => su_c (by omega)) (by rw [su_s, up_n (by decide)]) (su_c (by decide))
    · obtain ⟨r1, r2, r3, r4, r5⟩ := hR
      unfold RD
      rw [su_s, su_s, up_a, up_a, su_c (by decide), su_c (by decide), up_n (by decide), up_n (by decide), up_n (by decide), up_n (by decide)]
      exact ⟨rfl, by omega, fun j hj => r3 j (by omega), r4, r5⟩
  · rw [if_neg hc, i00, i00]; exact ⟨_, _, _, rfl, rfl, h0⟩
end Easy
