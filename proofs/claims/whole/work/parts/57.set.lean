/-! set -/
section SetCall
variable {σ τ : Sg}
/-- what a call leaves that changes the talk of now and forgets the past -/
theorem Inv.forg (h : Inv σ τ) {σ' τ' : Sg} (hc : ∀ k, (4 < k ∧ k < 61) ∨ (61 < k ∧ k < 172) ∨ k = 0 ∨ k = 1 → σ' k = σ k) (hp : σ' 61 1 = σ 61 1) (hp2 : σ' 61 2 = 0) (hp3 : τ' 172 4 = 0) (ht : ∀ k, k ≠ 173 → k ≠ 172 → τ' k = τ k) (ht2 : ∀ j, j ≠ 4 → τ' 172 j = τ 172 j) (hw : ∀ j, 548 ≤ j → τ' 173 j = τ 173 j) (hw2 : τ' 173 2 = τ 173 2) (hT : TR 2 σ' (τ' 173)) (hW : WF (τ' 173)) (hM : τ' 173 0 ≤ 99999) : Inv σ' τ' := by
  obtain ⟨⟨-, hW0, -, hS, hB⟩, hP, hI, hR⟩ := h
  refine ⟨⟨hT, hW, hM, WS.agr hS (fun j _ _ => hw j (by omega)) (fun j _ _ => hw j (by omega)) (fun k _ => hc k (by omega)) (by rw [hc 1 (by omega)]), BK.agr hB hW0.2.1 (hc _ (by omega)) hw2 (fun j _ _ => hw j (by omega))⟩, ?_, ?_, ?_⟩
  · exact PS.none hp2 hp3 (by rw [hp]; exact hP.2.2.1)
  · exact IM.agr hI (by rw [hc 0 (by omega)]) (fun k _ _ => hc k (by omega)) (ht2 5 (by decide)) (ht 174 (by decide) (by decide))
  · exact RD.agr hR (by rw [hc 141 (by omega)]) (by rw [hc 141 (by omega)]) (by rw [hc 141 (by omega)]) (hc 145 (by omega)) (ht2 16 (by decide)) (ht2 23 (by decide)) (ht2 25 (by decide)) (ht 180 (by decide) (by decide))
theorem WF.cross {w : Nat → Int} (h : WF w) {one : Nat} (ho : one < 2) {v : Int} (hv : 0 ≤ v ∧ v ≤ 99) : WF (up w (4 + one) v) := by
  obtain ⟨w1, w2, w3, w4, w5⟩ := h
  refine ⟨by rw [up_n (by omega)]; exact w1, by rw [up_n (by omega)]; exact w2, by rw [up_n (by omega)]; exact w3, fun j hj => ?_, fun i hi => ?_⟩
  · rw [up_n (j' := 6 + j) (by omega)]
    refine ⟨?_, (w4 j hj).2⟩
    by_cases e : j = one
    · subst e; rw [up_a]; exact hv
    · rw [up_n (by omega)]; exact (w4 j hj).1
  · rw [up_n (by omega)] at hi
    have h5 := w5 i hi
    unfold MF at h5 ⊢
    simp only [mW_low (show 4 + one < 8 by omega)]
    rw [up_n (by omega)]; exact h5
theorem WF.took {w : Nat → Int} (h : WF w) {one : Nat} (ho : one < 2) {v : Int} (hv : 0 ≤ v ∧ v ≤ 9999) : WF (up w (6 + one) v) := by
  obtain ⟨w1, w2, w3, w4, w5⟩ := h
  refine ⟨by rw [up_n (by omega)]; exact w1, by rw [up_n (by omega)]; exact w2, by rw [up_n (by omega)]; exact w3, fun j hj => ?_, fun i hi => ?_⟩
  · rw [up_n (j' := 4 + j) (by omega)]
    refine ⟨(w4 j hj).1, ?_⟩
    by_cases e : j = one
    · subst e; rw [up_a]; exact hv
    · rw [up_n (by omega)]; exact (w4 j hj).2
  · rw [up_n (by omega)] at hi
    have h5 := w5 i hi
    unfold MF at h5 ⊢
    simp only [mW_low (show 6 + one < 8 by omega)]
    rw [up_n (by omega)]; exact h5
theorem p_set (h : Inv σ τ) (a b c : Int) : Same2 (Td_set a b c σ) (Mo_set a b c τ) := by
  have h0 := h
  obtain ⟨⟨hT, hW, hM, hS, hB⟩, hP, hI, hR⟩ := h
  have hT : TR 2 σ (τ 173) := hT
  unfold Td_set Mo_set Ta_clearMessages Pa_forget Mo_forgets
  simp only [within_q, isIn_q, isOneC_q, isOneM_q, b1_q, ll_q]
  by_cases a0 : a = 0
  · rw [if_pos a0, if_pos a0, if_pos a0]
    by_cases hc : 0 ≤ c ∧ c ≤ 9999
    · rw [if_pos hc, i10, i10]
      refine ⟨_, _, _, rfl, rfl, h0.forg (fun k _ => ?_) ?_ ?_ ?_ (fun k _ _ => ?_) (fun j hj => ?_) (fun j hj => ?_) ?_ ?_ ?_ ?_⟩
      · rw [su_c (by omega), su_c (by omega), su_c (by omega), su_c (by omega), su_c (by omega)]
      · rw [su_s, up_n (by decide), su_c (by decide), su_c (by decide), su_c (by decide), su_c (by decide)]
      · rw [su_s, up_a]
      · rw [su_s, up_a]
      · rw [su_c (by omega), su_c (by omega), su_c (by omega)]
      · rw [su_s, up_n hj, su_c (by decide), su_c (by decide)]
      · rw [su_c (by decide), su_s, up_n (by omega), su_s, up_n (by omega)]
      · rw [su_c (by decide), su_s, up_n (by omega), su_s, up_n (by omega)]
      · rw [su_c (k' := 173) (by decide), su_s, su_s]
        obtain ⟨q1, q2, q3, q4, q5, q6, q7, q8⟩ := hT
        unfold TR
        rw [up_a]
        refine ⟨?_, ?_, ?_, ?_, ?_, ?_, fun j hj => ?_, fun i f hi hf => by omega⟩
        · rw [su_c (by decide), su_s, su_s, su_s, su_s]; simp [up]
        · rw [su_c (by decide), su_s, su_s, su_s, su_s]; simpa [up] using q2
        · rw [su_c (by decide), su_s, su_s, su_s, su_s]; simp [up]
        · rw [su_c (by decide), su_s, su_s, su_s, su_s]; simpa [up] using q4
        · rw [su_c (by decide), su_s, su_s, su_s, su_s]; simp [up, opn]
        · rw [su_c (by decide), su_s, su_s, su_s, su_s]; simp [up, awt]
        · rw [su_c (by omega), su_c (by omega), su_c (by omega), su_c (by omega), su_c (by omega), su_c (by omega), su_c (by omega), su_c (by omega), su_c (by omega), su_c (by omega), up_n (by omega), up_n (by omega), up_n (by omega), up_n (by omega)]
          exact q7 j hj
      · rw [su_c (k' := 173) (by decide), su_s, su_s]
        obtain ⟨w1, w2, w3, w4, w5⟩ := hW
        refine ⟨by rw [up_n (by decide), up_a]; omega, by rw [up_n (by decide), up_n (by decide)]; exact w2, by rw [up_a]; omega, fun j hj => ?_, fun i hi => by rw [up_a] at hi; omega⟩
        rw [up_n (by omega), up_n (by omega), up_n (by omega), up_n (by omega)]; exact w4 j hj
      · rw [su_c (k' := 173) (by decide), su_s, up_n (by decide), su_s, up_a]; omega
    · rw [if_neg hc, i00, i00]; exact ⟨_, _, _, rfl, rfl, h0⟩
  · rw [if_neg a0, if_neg a0, if_neg a0]
    by_cases ho : b = 0 ∨ b = 1
    · rw [if_pos ho, i10, i10, i10, i10]
      obtain ⟨i, rfl⟩ := Int.eq_ofNat_of_zero_le (show 0 ≤ b by omega)
      have hi : i < 2 := by omega
      rw [ix_q (i := (i : Int)) (by omega) (by omega), ix_q (i := (i : Int)) (by omega) (by omega), ix_q (i := (i : Int)) (by omega) (by omega), ix_q (i := 4 + (i : Int)) (by omega) (by omega), ix_q (i := 6 + (i : Int)) (by omega) (by omega), ix_q (i := 548 + (i : Int)) (by omega) (by omega), Int.toNat_natCast, show (4 + (i : Int)).toNat = 4 + i by omega, show (6 + (i : Int)).toNat = 6 + i by omega, show (548 + (i : Int)).toNat = 548 + i by omega]
      by_cases a1 : a = 1
      · rw [if_pos a1, if_pos a1]
        by_cases hc : 0 ≤ c ∧ c ≤ 99
        · rw [if_pos hc, i10, b1_q, i00, i10]
          refine ⟨_, _, _, rfl, rfl, h0.forg (fun k _ => ?_) ?_ ?_ ?_ (fun k _ _ => ?_) (fun j hj => ?_) (fun j hj => ?_) ?_ ?_ ?_ ?_⟩
          · rw [su_c (by omega), su_c (by omega)]
          · rw [su_s, up_n (by decide), su_c (by decide)]
          · rw [su_s, up_a]
          · rw [su_s, up_a]
          · rw [su_c (by omega), su_c (by omega)]
          · rw [su_s, up_n hj, su_c (by decide)]
          · rw [su_c (by decide), su_s, up_n (by omega)]
          · rw [su_c (by decide), su_s, up_n (by omega)]
          · rw [su_c (k' := 173) (by decide), su_s]
            exact TR.agr (hT.cross hi) (by rw [up_n (by omega)]; exact hW.2.2.1) (fun k _ _ _ => su_c (by omega)) (fun _ _ _ => rfl)
          · rw [su_c (k' := 173) (by decide), su_s]; exact hW.cross hi hc
          · rw [su_c (k' := 173) (by decide), su_s, up_n (by omega)]; exact hM
        · rw [if_neg hc, i00, b1_q, i10, if_neg (by omega), b1_q, i10, if_neg (by omega), i00]; exact ⟨_, _, _, rfl, rfl, h0⟩
      · rw [if_neg a1, if_neg a1, b1_q, i10]
        by_cases a2 : a = 2
        · rw [if_pos a2, if_pos a2]
          by_cases hc : 0 ≤ c ∧ c ≤ 9999
          · rw [if_pos hc, i10, b1_q, i00, i10]
            refine ⟨_, _, _, rfl, rfl, h0.forg (fun k _ => ?_) ?_ ?_ ?_ (fun k _ _ => ?_) (fun j hj => ?_) (fun j hj => ?_) ?_ ?_ ?_ ?_⟩
            · rw [su_c (by omega), su_c (by omega)]
            · rw [su_s, up_n (by decide), su_c (by decide)]
            · rw [su_s, up_a]
            · rw [su_s, up_a]
            · rw [su_c (by omega), su_c (by omega)]
            · rw [su_s, up_n hj, su_c (by decide)]
            · rw [su_c (by decide), su_s, up_n (by omega)]
            · rw [su_c (by decide), su_s, up_n (by omega)]
            · rw [su_c (k' := 173) (by decide), su_s]
              exact TR.agr (hT.took hi) (by rw [up_n (by omega)]; exact hW.2.2.1) (fun k _ _ _ => su_c (by omega)) (fun _ _ _ => rfl)
            · rw [su_c (k' := 173) (by decide), su_s]; exact hW.took hi hc
            · rw [su_c (k' := 173) (by decide), su_s, up_n (by omega)]; exact hM
          · rw [if_neg hc, i00, b1_q, i10, if_neg (by omega), i00]; exact ⟨_, _, _, rfl, rfl, h0⟩
        · rw [if_neg a2, if_neg a2, b1_q, i10]
          by_cases a3 : a = 3
          · rw [if_pos a3, if_pos a3]
            by_cases hc : 0 ≤ c ∧ c ≤ 1
            · rw [if_pos hc, i10, i10]
              refine ⟨_, _, _, rfl, rfl, ⟨?_, ?_, ?_, ?_, ?_⟩, ?_, ?_, ?_⟩
              · rw [su_c (k' := 173) (by decide), su_s]
                exact TR.agr hT hW.2.2.1 (fun k _ _ _ => by rw [su_c (by omega), su_c (by omega)]) (fun j _ _ => up_n (by omega))
              · rw [su_c (k' := 173) (by decide), su_s]
                exact WF.agr hW (fun j _ _ => up_n (by omega))
              · rw [su_c (k' := 173) (by decide), su_s, up_n (by omega)]; exact hM
              · obtain ⟨g1, g2, g3, g4, g5, g6, g7⟩ := hS
                rw [su_c (k' := 173) (by decide), su_s]
                refine ⟨fun j hj => ?_, ?_, ?_, ?_, ?_, ⟨?_, ?_, fun j hj => ?_⟩, fun k hk => ?_⟩
                · rw [su_c (by omega), su_s]
                  by_cases z : j = i
                  · subst z; rw [up_a, up_a]; exact ⟨rfl, by omega⟩
                  · rw [up_n z, up_n (by omega)]; exact g1 j hj
                · rw [su_c (by omega), su_c (by omega), su_c (by omega), su_c (by omega)]; exact HR.ag g2 (fun j _ => up_n (by omega))
                · rw [su_c (by omega), su_c (by omega), su_c (by omega), su_c (by omega)]; exact SR.ag g3 (fun j _ => up_n (by omega))
                · rw [su_c (by omega), su_c (by omega), su_c (by omega), su_c (by omega)]; exact BR.ag g4 (fun j _ => up_n (by omega))
                · rw [su_c (by omega), su_c (by omega), su_c (by omega), su_c (by omega), su_c (by omega), su_c (by omega)]; exact LR.ag g5 (fun j _ => up_n (by omega))
                · rw [su_c (by omega), su_c (by omega), up_n (by omega)]; exact g6.1
                · rw [up_n (by omega)]; exact g6.2.1
                · rw [up_n (by omega)] at hj
                  rw [su_c (by omega), su_c (by omega), up_n (by omega)]; exact g6.2.2 j hj
                · rw [su_c (by omega), su_c (by omega), up_n (by omega), up_n (by omega)]; exact g7 k hk
              · rw [su_c (k' := 173) (by decide), su_s]
                exact BK.agr hB hW.2.1 (by rw [su_c (by omega), su_c (by omega)]) (up_n (by omega)) (fun j _ _ => up_n (by omega))
              · refine PS.none (by rw [su_s, up_a]) (by rw [su_s, up_a]) ?_
                rw [su_s, up_n (by decide), su_c (by decide)]; exact hP.2.2.1
              · exact IM.agr hI (by rw [su_c (by decide), su_c (by decide)]) (fun k _ _ => by rw [su_c (by omega), su_c (by omega)]) (by rw [su_s, up_n (by decide), su_c (by decide)]) (by rw [su_c (by decide), su_c (by decide)])
              · exact RD.agr hR (by rw [su_c (by decide), su_c (by decide)]) (by rw [su_c (by decide), su_c (by decide)]) (by rw [su_c (by decide), su_c (by decide)]) (by rw [su_c (by decide), su_c (by decide)]) (by rw [su_s, up_n (by decide), su_c (by decide)]) (by rw [su_s, up_n (by decide), su_c (by decide)]) (by rw [su_s, up_n (by decide), su_c (by decide)]) (by rw [su_c (by decide), su_c (by decide)])
            · rw [if_neg hc, i00, i00]; exact ⟨_, _, _, rfl, rfl, h0⟩
          · rw [if_neg a3, if_neg a3]; exact ⟨_, _, _, rfl, rfl, h0⟩
    · rw [if_neg ho, i00, i00, i00, i00]
      split
      · exact ⟨_, _, _, rfl, rfl, h0⟩
      · split
        · exact ⟨_, _, _, rfl, rfl, h0⟩
        · split <;> exact ⟨_, _, _, rfl, rfl, h0⟩
end SetCall
