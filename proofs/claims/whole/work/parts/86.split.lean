/-! split: the pauses by size -/
def spA (g : Nat) (σ τ : Sg) : Prop := (∀ j, j < g → σ 169 j = τ 186 j ∧ σ 170 j = τ 187 j ∧ 1 ≤ τ 186 j ∧ τ 186 j ≤ 99999) ∧ ∀ x y, x < y → y < g → τ 186 x ≤ τ 186 y
def spI (g k : Nat) (p : Int) (σ τ : Sg) : Prop := (∀ j, j ≤ g → j ≠ k → σ 169 j = τ 186 j ∧ σ 170 j = τ 187 j ∧ 1 ≤ τ 186 j ∧ τ 186 j ≤ 99999) ∧ (∀ x y, x < y → y ≤ g → x ≠ k → y ≠ k → τ 186 x ≤ τ 186 y) ∧ ∀ y, k < y → y ≤ g → p ≤ τ 186 y
section Split
theorem psF_1 {w : Nat → Int} (hW : WF w) {i : Nat} (hi : (i : Int) < w 3) (h6 : mW w i 6 ≠ -1) : 1 ≤ psF w i := by
  rcases (hW.2.2.2.2 i hi).2.2.2.2.2.2.1 with m6 | ⟨k, k1, k2, k3, k4⟩
  · exact absurd m6 h6
  · unfold psF; rw [k2, Int.toNat_natCast]; omega
theorem spS {g i : Nat} (hg : g < 60) {o : Int} {w : Nat → Int} (hW : WF w) (hi : (i : Int) < w 3) (h6 : mW w i 6 ≠ -1) (h0 : mW w i 0 = o) (hp : 1 ≤ psF w i ∧ psF w i ≤ 99999) : ∀ (k : Nat) (σ τ : Sg), k ≤ g → τ 173 = w → σ 166 1 = g → spI g k (psF w i) σ τ → ∃ σ' τ', Gl_insertPause_15_w (psF w i) o (k : Int) σ = some σ' ∧ Mo_laysPauses_27_w (i : Int) (g : Int) (k : Int) τ = some (.inl ((g : Int) + 1, (i : Int) + 1, τ')) ∧ (∀ c, c ≠ 169 → c ≠ 170 → c ≠ 166 → σ' c = σ c) ∧ (∀ c, c ≠ 186 → c ≠ 187 → τ' c = τ c) ∧ σ' 166 1 = g + 1 ∧ spA (g + 1) σ' τ' := by
  have h60 := hW.2.2.1
  have fin : ∀ (k : Nat) (σ τ : Sg), k ≤ g → τ 173 = w → σ 166 1 = g → spI g k (psF w i) σ τ → (k = 0 ∨ ¬ psF w i < τ 186 (k - 1)) → ∃ σ' τ', Gl_insertPause_15_w (psF w i) o (k : Int) σ = some σ' ∧ Mo_laysPauses_27_w (i : Int) (g : Int) (k : Int) τ = some (.inl ((g : Int) + 1, (i : Int) + 1, τ')) ∧ (∀ c, c ≠ 169 → c ≠ 170 → c ≠ 166 → σ' c = σ c) ∧ (∀ c, c ≠ 186 → c ≠ 187 → τ' c = τ c) ∧ σ' 166 1 = g + 1 ∧ spA (g + 1) σ' τ' := by
    intro k σ τ hk hw hg1 hI hz
    refine ⟨su (su (su σ 169 k (psF w i)) 170 k o) 166 1 ((g : Int) + 1), su (su τ 186 k (psF w i)) 187 k o, ?_, ?_, fun c h1 h2 h3 => by rw [su_c h3, su_c h2, su_c h1], fun c h1 h2 => by rw [su_c h2, su_c h1], by rw [su_s, up_a], ?_⟩
    · refine wl_end ?_
      show Gl_insertPause_15_b (psF w i) o (k : Int) σ = _
      unfold Gl_insertPause_15_b
      have t : (if 0 < (k : Int) then ix ((k : Int) - 1) 60 (if psF w i < σ 169 ((k : Int) - 1).toNat then some 0 else some 1) else some 1) = some (1 : Int) := by
        rcases Nat.eq_zero_or_pos k with z | z
        · rw [if_neg (by omega)]
        · rw [if_pos (by omega), ix_q (by omega) (by omega), show ((k : Int) - 1).toNat = k - 1 by omega, (hI.1 (k - 1) (by omega) (by omega)).1]
          rcases hz with hz | hz
          · omega
          · rw [if_neg hz]
      rw [t, b1_q, if_neg (by decide), ix_q (by omega) (by omega), ll_q, ix_q (by omega) (by omega), ll_q, Int.toNat_natCast, su_c (show (166 : Nat) ≠ 170 by decide), su_c (show (166 : Nat) ≠ 169 by decide), hg1, wr_q (by omega) (by omega), ll_q]
    · refine wl_end ?_
      show Mo_laysPauses_27_b (i : Int) (g : Int) (k : Int) τ = _
      unfold Mo_laysPauses_27_b
      have pm := pauseM (τ := τ) (by rw [hw]; exact hW) (i := i) (by rw [hw]; exact hi) (by rw [hw]; exact h6)
      rw [hw] at pm
      have t : (if 0 < (k : Int) then ix ((k : Int) - 1) 60 (b1 (Mo_pauseOf (i : Int) τ) fun r12 => if r12 < τ 186 ((k : Int) - 1).toNat then some 0 else some 1) else some 1) = some (1 : Int) := by
        rcases Nat.eq_zero_or_pos k with z | z
        · rw [if_neg (by omega)]
        · rw [if_pos (by omega), ix_q (by omega) (by omega), show ((k : Int) - 1).toNat = k - 1 by omega, pm, b1_q]
          rcases hz with hz | hz
          · omega
          · rw [if_neg hz]
      have o0 := of_0 (τ := su τ 186 k (psF w i)) (i := i) (by omega)
      rw [su_c (by decide), hw, h0] at o0
      rw [t, b1_q, if_neg (by decide), pm, b1_q, ix_q (by omega) (by omega), ll_q, Int.toNat_natCast, o0, b1_q, ix_q (by omega) (by omega), ll_q, wr_q (by omega) (by omega), wr_q (by omega) (by omega), ll_q, ll_q]
    · have c1 : su (su (su σ 169 k (psF w i)) 170 k o) 166 1 ((g : Int) + 1) 169 = up (σ 169) k (psF w i) := by rw [su_c (by decide), su_c (by decide), su_s]
      have c2 : su (su (su σ 169 k (psF w i)) 170 k o) 166 1 ((g : Int) + 1) 170 = up (σ 170) k o := by rw [su_c (by decide), su_s, su_c (by decide)]
      have c3 : su (su τ 186 k (psF w i)) 187 k o 186 = up (τ 186) k (psF w i) := by rw [su_c (by decide), su_s]
      have c4 : su (su τ 186 k (psF w i)) 187 k o 187 = up (τ 187) k o := by rw [su_s, su_c (by decide)]
      unfold spA
      rw [c1, c2, c3, c4]
      refine ⟨fun j hj => ?_, fun x y hxy hy => ?_⟩
      · by_cases e : j = k
        · rw [e, up_a, up_a, up_a, up_a]; exact ⟨rfl, rfl, hp⟩
        · rw [up_n e, up_n e, up_n e, up_n e]; exact hI.1 j (by omega) e
      · by_cases ex : x = k
        · have ey : y ≠ k := by omega
          rw [ex, up_a, up_n ey]
          exact hI.2.2 y (by omega) (by omega)
        · by_cases ey : y = k
          · rw [ey, up_a, up_n ex]
            rcases hz with hz | hz
            · omega
            · by_cases e : x = k - 1
              · rw [e]; omega
              · have := hI.2.1 x (k - 1) (by omega) (by omega) ex (by omega)
                omega
          · rw [up_n ex, up_n ey]
            exact hI.2.1 x y hxy (by omega) ex ey
  intro k
  induction k with
  | zero => exact fun σ τ hk hw hg1 hI => fin 0 σ τ hk hw hg1 hI (.inl rfl)
  | succ k ih =>
    intro σ τ hk hw hg1 hI
    by_cases hz : psF w i < τ 186 k
    · have q := hI.1 k (by omega) (by omega)
      have c1 : su (su σ 169 (k + 1) (τ 186 k)) 170 (k + 1) (τ 187 k) 169 = up (σ 169) (k + 1) (τ 186 k) := by rw [su_c (by decide), su_s]
      have c2 : su (su σ 169 (k + 1) (τ 186 k)) 170 (k + 1) (τ 187 k) 170 = up (σ 170) (k + 1) (τ 187 k) := by rw [su_s, su_c (by decide)]
      have c3 : su (su τ 186 (k + 1) (τ 186 k)) 187 (k + 1) (τ 187 k) 186 = up (τ 186) (k + 1) (τ 186 k) := by rw [su_c (by decide), su_s]
      have c4 : su (su τ 186 (k + 1) (τ 186 k)) 187 (k + 1) (τ 187 k) 187 = up (τ 187) (k + 1) (τ 187 k) := by rw [su_s, su_c (by decide)]
      obtain ⟨σ', τ', g1, g2, g3, g4, g5⟩ := ih (su (su σ 169 (k + 1) (τ 186 k)) 170 (k + 1) (τ 187 k)) (su (su τ 186 (k + 1) (τ 186 k)) 187 (k + 1) (τ 187 k)) (by omega) (by rw [su_c (by decide), su_c (by decide)]; exact hw) (by rw [su_c (by decide), su_c (by decide)]; exact hg1) (by
        unfold spI
        rw [c1, c2, c3, c4]
        refine ⟨fun j hj e => ?_, fun x y hxy hy ex ey => ?_, fun y h1 h2 => ?_⟩
        · by_cases e2 : j = k + 1
          · rw [e2, up_a, up_a, up_a, up_a]; exact ⟨rfl, rfl, q.2.2⟩
          · rw [up_n e2, up_n e2, up_n e2, up_n e2]; exact hI.1 j hj e2
        · by_cases e1 : x = k + 1
          · rw [e1, up_a, up_n (by omega)]
            exact hI.2.1 k y (by omega) hy (by omega) (by omega)
          · by_cases e2 : y = k + 1
            · rw [e2, up_a, up_n (by omega)]
              exact hI.2.1 x k (by omega) (by omega) (by omega) (by omega)
            · rw [up_n e1, up_n e2]
              exact hI.2.1 x y hxy hy e1 e2
        · by_cases e2 : y = k + 1
          · rw [e2, up_a]; omega
          · rw [up_n e2]; exact hI.2.2 y (by omega) h2)
      refine ⟨σ', τ', ?_, ?_, fun c h1 h2 h3 => by rw [g3 c h1 h2 h3, su_c h2, su_c h1], fun c h1 h2 => by rw [g4 c h1 h2, su_c h2, su_c h1], g5⟩
      · rw [← g1]
        refine wl_go ?_
        show Gl_insertPause_15_b (psF w i) o ((k + 1 : Nat) : Int) σ = _
        unfold Gl_insertPause_15_b
        rw [if_pos (by omega), ix_q (by omega) (by omega), show (((k + 1 : Nat) : Int) - 1).toNat = k by omega, q.1, if_pos hz, b1_q, i00, ix_q (by omega) (by omega), ix_q (by omega) (by omega), Int.toNat_natCast, ll_q, ix_q (by omega) (by omega), ix_q (by omega) (by omega), ll_q, su_c (show (170 : Nat) ≠ 169 by decide), q.2.1, wr_q (by omega) (by omega), ll_q, show ((k + 1 : Nat) : Int) + -1 = (k : Int) by omega]
      · rw [← g2]
        refine wl_go ?_
        show Mo_laysPauses_27_b (i : Int) (g : Int) ((k + 1 : Nat) : Int) τ = _
        have pm := pauseM (τ := τ) (by rw [hw]; exact hW) (i := i) (by rw [hw]; exact hi) (by rw [hw]; exact h6)
        rw [hw] at pm
        unfold Mo_laysPauses_27_b
        rw [if_pos (by omega), ix_q (by omega) (by omega), pm, b1_q, show (((k + 1 : Nat) : Int) - 1).toNat = k by omega, if_pos hz, b1_q, i00, ix_q (by omega) (by omega), ix_q (by omega) (by omega), Int.toNat_natCast, ll_q, ix_q (by omega) (by omega), ix_q (by omega) (by omega), ll_q, su_c (show (187 : Nat) ≠ 186 by decide), wr_q (by omega) (by omega), ll_q, show ((k + 1 : Nat) : Int) + -1 = (k : Int) by omega]
    · exact fin (k + 1) σ τ hk hw hg1 hI (.inr hz)
theorem spG {σ τ : Sg} (h : Inv σ τ) : ∃ (g : Nat) (σ' τ' : Sg), Gl_gatherPauses 2 σ = some σ' ∧ Mo_laysPauses τ = some ((g : Int), τ') ∧ g ≤ 60 ∧ σ' 166 1 = g ∧ spA g σ' τ' ∧ Inv σ' τ' := by
  have h0 : Inv (su σ 166 1 0) τ := h.scr (fun k hk => su_c (by omega)) (by rw [su_c (by decide)]) (by rw [su_c (by decide)]) (by rw [su_c (by decide)]) (fun _ _ => rfl) (fun _ _ => rfl)
  obtain ⟨n, hn⟩ := Int.eq_ofNat_of_zero_le h.1.2.1.2.2.1.1
  have key := wl_two (B := fun p : Int × Sg => Gl_gatherPauses_7_b 2 p.1 p.2) (B' := fun p : Int × Int × Sg => Mo_laysPauses_4_b p.1 p.2.1 p.2.2) (fun p => ((n : Int) - p.1).toNat)
    (fun p q => p.1 = q.2.1 ∧ Inv p.2 q.2.2 ∧ q.2.2 173 3 = n ∧ ∃ k g : Nat, p.1 = k ∧ q.1 = g ∧ k ≤ n ∧ g ≤ k ∧ p.2 166 1 = g ∧ spA g p.2 q.2.2)
    (fun r r' => ∃ g : Nat, r'.1 = g ∧ g ≤ 60 ∧ r 166 1 = g ∧ spA g r r'.2 ∧ Inv r r'.2)
    (fun ⟨i, σ⟩ ⟨m, i', τ⟩ ⟨e1, e2, e3, k, g, e4, e5, e6, e7, e8, e9⟩ => by
      dsimp only at e1 e2 e3 e4 e5 e6 e7 e8 e9 ⊢
      subst e1 e4 e5
      obtain ⟨hT, hW, hM9, -⟩ := e2.1
      have h60 := hW.2.2.1
      have h22 : σ 2 2 = n := hT.2.2.1.trans e3
      by_cases hk : k < n
      · right
        have hi : (k : Int) < τ 173 3 := by omega
        have a1 := isAnswerM hW hi
        have a2 := isAnswerC hT hW hi
        by_cases hA : mW (τ 173) k 6 ≠ -1 ∧ mW (τ 173) k 7 = 0
        · rw [if_pos hA] at a1 a2
          have ps := psF_in hW hi hA.1
          have ps1 := psF_1 hW hi hA.1
          obtain ⟨σ', τ', g1, g2, g3, g4, g5, g6⟩ := spS (g := g) (by omega) hW hi hA.1 rfl (by omega) g σ τ (Nat.le_refl _) rfl e8 ⟨fun j hj e => e9.1 j (by omega), fun x y hxy hy ex ey => e9.2 x y hxy (by omega), fun y h1 h2 => by omega⟩
          refine ⟨(((k : Int) + 1), σ'), ((g : Int) + 1, (k : Int) + 1, τ'), ?_, ?_, ⟨rfl, ?_, ?_, k + 1, g + 1, by dsimp only; omega, by dsimp only; omega, by omega, by omega, by dsimp only; omega, g6⟩, by dsimp only; omega⟩
          · unfold Gl_gatherPauses_7_b
            rw [h22, if_pos (by omega), a2, b1_q, if_neg (by decide), pauseC hT hW hi hA.1, b1_q, ix_q (by omega) (by omega), Int.toNat_natCast, (TR.g hT hi).1]
            unfold Gl_insertPause
            rw [e8, if_pos (by omega), ll_q, g1, b1_q, wr_q (by omega) (by omega), ll_q]
          · unfold Mo_laysPauses_4_b
            rw [e3, if_pos (by omega), a1, b1_q, if_neg (by decide), g2]
          · dsimp only; exact e2.scr (fun c hc => g3 c (by omega) (by omega) (by omega)) (by rw [g3 _ (by decide) (by decide) (by decide)]) (by rw [g3 _ (by decide) (by decide) (by decide)]) (by rw [g3 _ (by decide) (by decide) (by decide)]) (fun c hc => g4 c (by omega) (by omega)) (fun j _ => by rw [g4 _ (by decide) (by decide)])
          · dsimp only; rw [g4 _ (by decide) (by decide)]; exact e3
        · rw [if_neg hA] at a1 a2
          refine ⟨((k : Int) + 1, σ), ((g : Int), (k : Int) + 1, τ), ?_, ?_, ⟨rfl, e2, e3, k + 1, g, by dsimp only; omega, rfl, by omega, by omega, e8, e9⟩, by dsimp only; omega⟩
          · unfold Gl_gatherPauses_7_b
            rw [h22, if_pos (by omega), a2, b1_q, i00, wr_q (by omega) (by omega), ll_q]
          · unfold Mo_laysPauses_4_b
            rw [e3, if_pos (by omega), a1, b1_q, i00, wr_q (by omega) (by omega), ll_q]
      · left
        refine ⟨σ, ((g : Int), τ), ?_, ?_, g, rfl, by omega, e8, e9, e2⟩
        · unfold Gl_gatherPauses_7_b
          rw [h22, if_neg (by omega)]
        · unfold Mo_laysPauses_4_b
          rw [e3, if_neg (by omega)]) (0, su σ 166 1 0) (0, 0, τ) ⟨rfl, h0, hn, 0, 0, rfl, rfl, by omega, by omega, by dsimp only; rw [su_s, up_a]; rfl, fun j hj => (by omega), fun x y _ hy => (by omega)⟩
  obtain ⟨σ', ⟨m, τ'⟩, k1, k2, g, k3, k4, k5, k6, k7⟩ := key
  dsimp only at k3 k6 k7
  subst k3
  refine ⟨g, σ', τ', ?_, k2, k4, k5, k6, k7⟩
  unfold Gl_gatherPauses
  rw [ll_q]; exact k1
end Split
