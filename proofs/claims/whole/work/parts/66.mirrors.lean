/-! mirrors -/
section Mirrors
variable {σ τ : Sg}
theorem Inv.parts (h : Inv σ τ) : TR 2 σ (τ 173) ∧ WF (τ 173) ∧ HR (σ 20) (σ 21) (τ 173) ∧ LR (σ 17) (σ 18) (σ 19) (τ 173) ∧ ∀ j, j < 2 → σ (2 + 3) j = τ 173 (548 + j) := ⟨h.1.1, h.1.2.1, h.1.2.2.2.1.2.1, h.1.2.2.2.1.2.2.2.2.1, fun j hj => (h.1.2.2.2.1.1 j hj).1⟩
/-- the facts are laid, alike on both sides -/
theorem turnJ (h : Inv σ τ) {one : Int} (ho : one = 0 ∨ one = 1) (l k st : Int) : ∃ σ1 σ2 τ1, Ju_sit 1 2 one σ = some σ1 ∧ Ju_lay l k st σ1 = some σ2 ∧ Mo_lays one l k st τ = some τ1 ∧ Inv σ2 τ1 ∧ (∀ j, j < 10 → σ2 150 j = τ1 182 (j + 1)) ∧ (∀ c, c ≠ 150 → σ2 c = σ c) ∧ ∀ c, c ≠ 182 → τ1 c = τ c := by
  obtain ⟨hT, hW, hH, hL, hK⟩ := h.parts
  obtain ⟨τ1, e1, e2, e3⟩ := laysM hH hW.1.1 ho l k st
  obtain ⟨σ1, σ2, s1, s2, s3, s4, s5⟩ := sitC (t := 2) (Or.inl rfl) hT hK hH hW.1.1 ho l k st
  refine ⟨σ1, σ2, τ1, s1, s2, e1, ?_, fun j hj => by rw [s5 j hj, e3 (j + 1) (by omega) (by omega)], s4, e2⟩
  exact h.scr (fun k hk => s4 k (by omega)) (by rw [s4 141 (by decide)]) (by rw [s4 141 (by decide)]) (by rw [s4 141 (by decide)]) (fun k hk => e2 k (by omega)) (fun j _ => by rw [e2 172 (by decide)])
theorem tv_in (w F : Nat → Int) : (1 ≤ tvF w F 0 ∧ tvF w F 0 ≤ 999) ∧ (1 ≤ tvF w F 1 ∧ tvF w F 1 ≤ 99) ∧ (0 ≤ tvF w F 2 ∧ tvF w F 2 ≤ 9) ∧ (-50 ≤ tvF w F 3 ∧ tvF w F 3 ≤ 50) ∧ (0 ≤ tvF w F 4 ∧ tvF w F 4 ≤ 1000) := by
  have a0 : mLo (Int.toNat 0) = 1 ∧ mHi (Int.toNat 0) = 999 := by decide
  have a1 : mLo (Int.toNat 1) = 1 ∧ mHi (Int.toNat 1) = 99 := by decide
  have a2 : mLo (Int.toNat 2) = 0 ∧ mHi (Int.toNat 2) = 9 := by decide
  have a3 : mLo (Int.toNat 3) = -50 ∧ mHi (Int.toNat 3) = 50 := by decide
  have a4 : mLo (Int.toNat 4) = 0 ∧ mHi (Int.toNat 4) = 1000 := by decide
  unfold tvF
  rw [a0.1, a0.2, a1.1, a1.2, a2.1, a2.2, a3.1, a3.2, a4.1, a4.2]
  omega
/-- after a word is told, Inv and all but the piles stand -/
theorem Inv.told2 (h : Inv σ τ) {σ' τ' : Sg} (hJ : sameJ σ σ') (ht : ∀ k, k ≠ 181 → τ' k = τ k) : Inv σ' τ' :=
  h.scr (fun k hk => hJ.1 k (by omega) (by omega)) (by rw [hJ.1 141 (by decide) (by decide)]) (by rw [hJ.1 141 (by decide) (by decide)]) (by rw [hJ.1 141 (by decide) (by decide)]) (fun k hk => ht k (by omega)) (fun j _ => by rw [ht 172 (by decide)])
theorem odd_in {k : Int} (hk : 1 ≤ k) : Int.tmod (k - 1) 2 = 0 ∨ Int.tmod (k - 1) 2 = 1 := by rw [Int.tmod_eq_emod_of_nonneg (by omega)]; omega
theorem p_mirrors (h : Inv σ τ) (a b : Int) : Same2 (Td_mirrors a b σ) (Mo_mirrors a b τ) := by
  unfold Td_mirrors Mo_mirrors
  rw [within_q, within_q, isIn_q, isIn_q]
  simp only [b1_q]
  by_cases ha : 1 ≤ a ∧ a ≤ 99
  · rw [if_pos ha, i10, i10]
    by_cases hb : 0 ≤ b ∧ b ≤ 1
    · rw [if_pos hb, i10, i10]
      have key := wl_two (B := fun p : Int × Int × Sg => Td_mirrors_26_b b p.1 p.2.1 p.2.2) (B' := fun p : Int × Int × Sg => Mo_mirrors_26_b b p.1 p.2.1 p.2.2) (fun p => (61 - p.2.1).toNat) (fun p q => p.1 = q.1 ∧ p.2.1 = q.2.1 ∧ (1 ≤ p.2.1 ∧ p.2.1 ≤ 61) ∧ Inv p.2.2 q.2.2) (fun r r' => r.1 = r'.1 ∧ Inv r.2 r'.2) (by
        rintro ⟨x, k, σ1⟩ ⟨x', k', τ1⟩ ⟨e1, e2, hk, hI⟩
        dsimp only at e1 e2 hk hI ⊢
        subst e1; subst e2
        unfold Td_mirrors_26_b Mo_mirrors_26_b
        by_cases h60 : 60 < k
        · left
          rw [if_pos h60, if_pos h60]
          by_cases b0 : b = 0
          · rw [if_pos b0, if_pos b0]; exact ⟨_, _, rfl, rfl, rfl, hI⟩
          · rw [if_neg b0, if_neg b0]; exact ⟨_, _, rfl, rfl, rfl, hI⟩
        · rw [if_neg h60, if_neg h60, wr_q (n := k - 1) (by omega) (by omega)]
          obtain ⟨σ2, σ3, τ2, s1, s2, s3, s4, s5, -, -⟩ := turnJ hI (odd_in hk.1) x 0 0
          obtain ⟨-, -, -, hL, -⟩ := s4.parts
          obtain ⟨σ4, t1, t2⟩ := tvC (F := τ2 182) hL s5 (word := 1) (by decide)
          obtain ⟨τ3, u1, u2⟩ := (tvM hL).2.1
          have hI2 := s4.told2 t2 u2
          rw [s1, s3, b1_q, b1_q, s2, b1_q, t1, u1, b2_q, b2_q]
          by_cases hx : tvF (τ2 173) (τ2 182) 1 = x
          · left
            rw [if_pos hx, if_pos hx]
            by_cases b0 : b = 0
            · rw [if_pos b0, if_pos b0]; exact ⟨_, _, rfl, rfl, rfl, hI2⟩
            · rw [if_neg b0, if_neg b0]; exact ⟨_, _, rfl, rfl, rfl, hI2⟩
          · right
            rw [if_neg hx, if_neg hx, ll_q, ll_q, wr_q (n := k + 1) (by omega) (by omega)]
            exact ⟨_, _, rfl, rfl, ⟨rfl, rfl, by dsimp only; omega, hI2⟩, by dsimp only; omega⟩) (a, 1, σ) (a, 1, τ) ⟨rfl, rfl, by dsimp only; omega, h⟩
      obtain ⟨⟨r, σ'⟩, ⟨r', τ'⟩, h1, h2, h3, h4⟩ := key
      dsimp only at h3 h4
      subst h3
      exact ⟨r, σ', τ', h1, h2, h4⟩
    · rw [if_neg hb, i00, i00]; exact ⟨_, _, _, rfl, rfl, h⟩
  · rw [if_neg ha, i00, i00]; exact ⟨_, _, _, rfl, rfl, h⟩
end Mirrors
