/-! pauses; what is scratch -/
section Pauses
variable {σ τ : Sg}
theorem Inv.scr (h : Inv σ τ) {σ' τ' : Sg} (hc : ∀ k, k < 141 ∨ k = 145 → σ' k = σ k) (h1 : σ' 141 1 = σ 141 1) (h2 : σ' 141 2 = σ 141 2) (h3 : σ' 141 3 = σ 141 3) (ht : ∀ k, k = 173 ∨ k = 174 ∨ k = 175 ∨ k = 180 → τ' k = τ k) (ht2 : ∀ j, j = 4 ∨ j = 5 ∨ j = 16 ∨ j = 23 ∨ j = 25 → τ' 172 j = τ 172 j) : Inv σ' τ' := by
  obtain ⟨⟨hT, hW, hM, hS, hB⟩, hP, hI, hR⟩ := h
  have e := ht 173 (by omega)
  refine ⟨⟨?_, ?_, ?_, ?_, ?_⟩, ?_, ?_, ?_⟩
  · rw [e]; exact TR.agr hT hW.2.2.1 (fun k _ _ _ => hc k (by omega)) (fun _ _ _ => rfl)
  · rw [e]; exact hW
  · rw [e]; exact hM
  · rw [e]; exact WS.agr hS (fun _ _ _ => rfl) (fun _ _ _ => rfl) (fun k _ => hc k (by omega)) (by rw [hc 1 (by omega)])
  · rw [e, hc _ (by omega)]; exact hB
  · exact PS.agr hP (fun k _ _ => hc k (by omega)) (ht2 4 (by omega)) (ht 175 (by omega)) (by rw [e]; exact Int.le_refl _) (fun j _ => by rw [e])
  · exact IM.agr hI (by rw [hc 0 (by omega)]) (fun k _ _ => hc k (by omega)) (ht2 5 (by omega)) (ht 174 (by omega))
  · exact RD.agr hR h1 h2 h3 (hc 145 (by omega)) (ht2 16 (by omega)) (ht2 23 (by omega)) (ht2 25 (by omega)) (ht 180 (by omega))
/-- one turn of the reference's loop, told by its parts -/
theorem pausesM (hW : WF (τ 173)) {one b : Int} (ho : one = 0 ∨ one = 1) {x y z : Int} {i : Nat} (hi : (i : Int) < τ 173 3) (hx : 0 ≤ x ∧ x ≤ i * 200000) (hz : 0 ≤ z ∧ z ≤ i) :
    Mo_pauses_29_b τ one b x y z (i : Int) = some (.inl (if mW (τ 173) i 0 = one ∧ mW (τ 173) i 6 ≠ -1 ∧ mW (τ 173) i 7 = 0 then x + psF (τ 173) i else x, if mW (τ 173) i 0 = one ∧ mW (τ 173) i 6 ≠ -1 ∧ mW (τ 173) i 7 = 0 then max y (psF (τ 173) i) else y, z + wtF (τ 173) one i, (i : Int) + 1)) := by
  have h60 := hW.2.2.1
  have h0 := hW.1
  unfold Mo_pauses_29_b
  have hz2 : (if wtF (τ 173) one i = 0 then some (0 : Int) else some 1) = some (wtF (τ 173) one i) := by
    rcases wtF_z (τ 173) one i with q | q <;> rw [q] <;> rfl
  rw [if_pos hi, waiting_q hW hi ho, b1_q, hz2, b1_q, ll_q, isAnswerM hW hi, b1_q, of_0 (by omega), b1_q]
  have hw := wtF_z (τ 173) one i
  rw [wr_q (n := z + _) (by omega) (by omega)]
  by_cases ha : mW (τ 173) i 6 ≠ -1 ∧ mW (τ 173) i 7 = 0
  · rw [if_pos (c := mW (τ 173) i 6 ≠ -1 ∧ mW (τ 173) i 7 = 0) ha, i10]
    by_cases hf : mW (τ 173) i 0 = one
    · have hp := psF_in hW hi ha.1
      rw [if_pos hf, if_pos ⟨hf, ha⟩, if_pos ⟨hf, ha⟩, pauseM hW hi ha.1]
      simp only [b1_q, ll_q, greater_q]
      rw [wr_q (n := x + _) (by omega) (by omega), wr_q (n := (i : Int) + 1) (by omega) (by omega)]
    · rw [if_neg hf, if_neg (fun q => hf q.1), if_neg (fun q => hf q.1), ll_q, wr_q (n := (i : Int) + 1) (by omega) (by omega)]
  · rw [if_neg (c := mW (τ 173) i 6 ≠ -1 ∧ mW (τ 173) i 7 = 0) ha, i00, if_neg (fun q => ha q.2), if_neg (fun q => ha q.2), ll_q, wr_q (n := (i : Int) + 1) (by omega) (by omega)]
theorem p_pauses (h : Inv σ τ) (a b : Int) : Same1 (Td_pauses a b σ) (Mo_pauses a b τ) := by
  obtain ⟨⟨hT, hW, hM, hS, hB⟩, hP, hI, hR⟩ := h
  have hT : TR 2 σ (τ 173) := hT
  have h60 := hW.2.2.1
  have h00 := hW.1
  unfold Td_pauses Mo_pauses
  rw [isOneC_q, isOneM_q, isIn_q]
  simp only [b1_q]
  by_cases ho : a = 0 ∨ a = 1
  · rw [if_pos ho, i10, i10]
    by_cases hb : 0 ≤ b ∧ b ≤ 2
    · rw [if_pos hb, i10]
      by_cases b0 : b = 0
      · rw [if_pos b0]
        have key := wl_two (B := fun p : Int × Int => Gl_pauseSum_5_b σ 2 a p.1 p.2) (B' := fun p : Int × Int × Int × Int => Mo_pauses_29_b τ a b p.1 p.2.1 p.2.2.1 p.2.2.2) (fun p => (τ 173 3 - p.2).toNat) (fun p q => p.1 = q.1 ∧ p.2 = q.2.2.2 ∧ (0 ≤ p.2 ∧ p.2 ≤ τ 173 3) ∧ (0 ≤ p.1 ∧ p.1 ≤ p.2 * 200000) ∧ 0 ≤ q.2.2.1 ∧ q.2.2.1 ≤ p.2) (fun r r' => r = r') (by
          rintro ⟨x, k⟩ ⟨x', y, z, k'⟩ ⟨e1, e2, h1, h2, h3⟩
          dsimp only at e1 e2 h1 h2 h3 ⊢
          subst e1; subst e2
          by_cases hk : k < τ 173 3
          · right
            obtain ⟨i, rfl⟩ := Int.eq_ofNat_of_zero_le h1.1
            have hw := wtF_z (τ 173) a i
            obtain ⟨g0, -⟩ := hT.g hk
            rw [pausesM hW ho hk h2 h3]
            unfold Gl_pauseSum_5_b
            rw [hT.2.2.1, if_pos hk, ix_q (by omega) (by omega), Int.toNat_natCast, g0, isAnswerC hT hW hk, b1_q]
            by_cases ha : mW (τ 173) i 6 ≠ -1 ∧ mW (τ 173) i 7 = 0
            · have hp := psF_in hW hk ha.1
              by_cases hf : mW (τ 173) i 0 = a
              · rw [if_pos hf, if_pos (c := mW (τ 173) i 6 ≠ -1 ∧ mW (τ 173) i 7 = 0) ha, i10, pauseC hT hW hk ha.1, b1_q, if_pos ⟨hf, ha⟩, if_pos ⟨hf, ha⟩]
                simp only [ll_q]
                rw [wr_q (n := x + _) (by omega) (by omega), wr_q (n := (i : Int) + 1) (by omega) (by omega)]
                exact ⟨_, _, rfl, rfl, ⟨rfl, rfl, by dsimp only; omega, by dsimp only; omega, by dsimp only; omega⟩, by dsimp only; omega⟩
              · rw [if_neg hf, if_neg (fun q => hf q.1), if_neg (fun q => hf q.1)]
                simp only [ll_q, Int.add_zero]
                rw [wr_q (n := x) (by omega) (by omega), wr_q (n := (i : Int) + 1) (by omega) (by omega)]
                exact ⟨_, _, rfl, rfl, ⟨rfl, rfl, by dsimp only; omega, by dsimp only; omega, by dsimp only; omega⟩, by dsimp only; omega⟩
            · rw [if_neg (c := mW (τ 173) i 6 ≠ -1 ∧ mW (τ 173) i 7 = 0) ha, i00, if_neg (c := mW (τ 173) i 0 = a ∧ mW (τ 173) i 6 ≠ -1 ∧ mW (τ 173) i 7 = 0) (fun q => ha q.2), if_neg (c := mW (τ 173) i 0 = a ∧ mW (τ 173) i 6 ≠ -1 ∧ mW (τ 173) i 7 = 0) (fun q => ha q.2)]
              simp only [ll_q, Int.add_zero]
              rw [wr_q (n := x) (by omega) (by omega), wr_q (n := (i : Int) + 1) (by omega) (by omega), ite_self]
              exact ⟨_, _, rfl, rfl, ⟨rfl, rfl, by dsimp only; omega, by dsimp only; omega, by dsimp only; omega⟩, by dsimp only; omega⟩
          · left
            refine ⟨x, x, ?_, ?_, rfl⟩
            · unfold Gl_pauseSum_5_b; rw [hT.2.2.1, if_neg hk]
            · unfold Mo_pauses_29_b; rw [if_neg hk, if_pos b0]) (0, 0) (0, 0, 0, 0) ⟨rfl, rfl, by dsimp only; omega, by dsimp only; omega, by dsimp only; omega⟩
        obtain ⟨r, r', h1, h2, h3⟩ := key
        exact ⟨r, by rw [show Gl_pauseSum 2 a σ = some r from h1, b1_q], by rw [h3]; exact h2⟩
      · rw [if_neg b0]
        by_cases b1' : b = 1
        · rw [if_pos b1']
          have key := wl_two (B := fun p : Int × Int => Gl_greatestPause_5_b σ 2 a p.1 p.2) (B' := fun p : Int × Int × Int × Int => Mo_pauses_29_b τ a b p.1 p.2.1 p.2.2.1 p.2.2.2) (fun p => (τ 173 3 - p.2).toNat) (fun p q => p.1 = q.2.1 ∧ p.2 = q.2.2.2 ∧ (0 ≤ p.2 ∧ p.2 ≤ τ 173 3) ∧ (0 ≤ q.1 ∧ q.1 ≤ p.2 * 200000) ∧ 0 ≤ q.2.2.1 ∧ q.2.2.1 ≤ p.2) (fun r r' => r = r') (by
            rintro ⟨y, k⟩ ⟨x, y', z, k'⟩ ⟨e1, e2, h1, h2, h3⟩
            dsimp only at e1 e2 h1 h2 h3 ⊢
            subst e1; subst e2
            by_cases hk : k < τ 173 3
            · right
              obtain ⟨i, rfl⟩ := Int.eq_ofNat_of_zero_le h1.1
              have hw := wtF_z (τ 173) a i
              obtain ⟨g0, -⟩ := hT.g hk
              rw [pausesM hW ho hk h2 h3]
              unfold Gl_greatestPause_5_b
              rw [hT.2.2.1, if_pos hk, ix_q (by omega) (by omega), Int.toNat_natCast, g0, isAnswerC hT hW hk, b1_q]
              by_cases ha : mW (τ 173) i 6 ≠ -1 ∧ mW (τ 173) i 7 = 0
              · have hp := psF_in hW hk ha.1
                by_cases hf : mW (τ 173) i 0 = a
                · rw [if_pos hf, if_pos (c := mW (τ 173) i 6 ≠ -1 ∧ mW (τ 173) i 7 = 0) ha, i10, pauseC hT hW hk ha.1, b1_q, max_q, b1_q, if_pos ⟨hf, ha⟩, if_pos ⟨hf, ha⟩]
                  simp only [ll_q]
                  rw [wr_q (n := (i : Int) + 1) (by omega) (by omega)]
                  exact ⟨_, _, rfl, rfl, ⟨rfl, rfl, by dsimp only; omega, by dsimp only; omega, by dsimp only; omega⟩, by dsimp only; omega⟩
                · rw [if_neg hf, if_neg (fun q => hf q.1), if_neg (fun q => hf q.1)]
                  simp only [ll_q]
                  rw [wr_q (n := (i : Int) + 1) (by omega) (by omega)]
                  exact ⟨_, _, rfl, rfl, ⟨rfl, rfl, by dsimp only; omega, by dsimp only; omega, by dsimp only; omega⟩, by dsimp only; omega⟩
              · rw [if_neg (c := mW (τ 173) i 6 ≠ -1 ∧ mW (τ 173) i 7 = 0) ha, i00, if_neg (c := mW (τ 173) i 0 = a ∧ mW (τ 173) i 6 ≠ -1 ∧ mW (τ 173) i 7 = 0) (fun q => ha q.2), if_neg (c := mW (τ 173) i 0 = a ∧ mW (τ 173) i 6 ≠ -1 ∧ mW (τ 173) i 7 = 0) (fun q => ha q.2)]
                simp only [ll_q]
                rw [wr_q (n := (i : Int) + 1) (by omega) (by omega), ite_self]
                exact ⟨_, _, rfl, rfl, ⟨rfl, rfl, by dsimp only; omega, by dsimp only; omega, by dsimp only; omega⟩, by dsimp only; omega⟩
            · left
              refine ⟨y, y, ?_, ?_, rfl⟩
              · unfold Gl_greatestPause_5_b; rw [hT.2.2.1, if_neg hk]
              · unfold Mo_pauses_29_b; rw [if_neg hk, if_neg b0, if_pos b1']) (0, 0) (0, 0, 0, 0) ⟨rfl, rfl, by dsimp only; omega, by dsimp only; omega, by dsimp only; omega⟩
          obtain ⟨r, r', h1, h2, h3⟩ := key
          exact ⟨r, by rw [show Gl_greatestPause 2 a σ = some r from h1, b1_q], by rw [h3]; exact h2⟩
        · rw [if_neg b1', if_pos (show b = 2 by omega)]
          have key := wl_two (B := fun p : Int × Int => Gl_waiting_5_b σ 2 a p.1 p.2) (B' := fun p : Int × Int × Int × Int => Mo_pauses_29_b τ a b p.1 p.2.1 p.2.2.1 p.2.2.2) (fun p => (τ 173 3 - p.2).toNat) (fun p q => p.1 = q.2.2.1 ∧ p.2 = q.2.2.2 ∧ (0 ≤ p.2 ∧ p.2 ≤ τ 173 3) ∧ (0 ≤ q.1 ∧ q.1 ≤ p.2 * 200000) ∧ 0 ≤ p.1 ∧ p.1 ≤ p.2) (fun r r' => r = r') (by
            rintro ⟨z, k⟩ ⟨x, y, z', k'⟩ ⟨e1, e2, h1, h2, h3⟩
            dsimp only at e1 e2 h1 h2 h3 ⊢
            subst e1; subst e2
            by_cases hk : k < τ 173 3
            · right
              obtain ⟨i, rfl⟩ := Int.eq_ofNat_of_zero_le h1.1
              have hw := wtF_z (τ 173) a i
              rw [pausesM hW ho hk h2 h3]
              unfold Gl_waiting_5_b
              rw [hT.2.2.1, if_pos hk, waitsFor_q hT hW hk, b1_q]
              have hsum : (0 : Int) ≤ (if mW (τ 173) i 0 = a ∧ mW (τ 173) i 6 ≠ -1 ∧ mW (τ 173) i 7 = 0 then x + psF (τ 173) i else x) ∧ (if mW (τ 173) i 0 = a ∧ mW (τ 173) i 6 ≠ -1 ∧ mW (τ 173) i 7 = 0 then x + psF (τ 173) i else x) ≤ ((i : Int) + 1) * 200000 := by
                by_cases hq : mW (τ 173) i 0 = a ∧ mW (τ 173) i 6 ≠ -1 ∧ mW (τ 173) i 7 = 0
                · have hp := psF_in hW hk hq.2.1
                  rw [if_pos hq]; omega
                · rw [if_neg hq]; omega
              rcases hw with hw | hw
              · rw [hw, i00]
                simp only [ll_q, Int.add_zero]
                rw [wr_q (n := z) (by omega) (by omega), wr_q (n := (i : Int) + 1) (by omega) (by omega)]
                exact ⟨_, _, rfl, rfl, ⟨rfl, rfl, by dsimp only; omega, hsum, by dsimp only; omega⟩, by dsimp only; omega⟩
              · rw [hw, i10]
                simp only [ll_q]
                rw [wr_q (n := z + 1) (by omega) (by omega), wr_q (n := (i : Int) + 1) (by omega) (by omega)]
                exact ⟨_, _, rfl, rfl, ⟨rfl, rfl, by dsimp only; omega, hsum, by dsimp only; omega⟩, by dsimp only; omega⟩
            · left
              refine ⟨z, z, ?_, ?_, rfl⟩
              · unfold Gl_waiting_5_b; rw [hT.2.2.1, if_neg hk]
              · unfold Mo_pauses_29_b; rw [if_neg hk, if_neg b0, if_neg b1']) (0, 0) (0, 0, 0, 0) ⟨rfl, rfl, by dsimp only; omega, by dsimp only; omega, by dsimp only; omega⟩
          obtain ⟨r, r', h1, h2, h3⟩ := key
          exact ⟨r, by rw [show Gl_waiting 2 a σ = some r from h1, b1_q], by rw [h3]; exact h2⟩
    · rw [if_neg hb, i00, if_neg (by omega), if_neg (by omega), if_neg (by omega)]; exact ⟨_, rfl, rfl⟩
  · rw [if_neg ho, i00, i00]; exact ⟨_, rfl, rfl⟩
end Pauses
