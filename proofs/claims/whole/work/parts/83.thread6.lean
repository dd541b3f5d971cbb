/-! thread: the call -/
section Thread6
theorem thB {best i : Int} {σ : Sg} (h0 : 0 ≤ i) (h1 : i < 60) (h7 : σ 13 i.toNat ≠ 0) : Gl_dearest_32_b 2 best i σ = some (.inl (best, i - 1, σ)) := by
  unfold Gl_dearest_32_b
  rw [if_neg (by omega), ix_q h0 h1, if_neg h7, ll_q, wr_q (by omega) (by omega)]
  rfl
theorem thQ {a best : Int} {i : Nat} {τ : Sg} (h1 : i < 60) (h7 : mW (τ 173) i 7 = 1) : Mo_thread_22_b a best (i : Int) τ = some (.inl (best, (i : Int) - 1, τ)) := by
  unfold Mo_thread_22_b
  rw [if_neg (by omega), isBack_q h1 (.inr h7), b1_q, if_neg (by omega), ll_q, wr_q (by omega) (by omega)]
  rfl
theorem thL {n : Nat} (hn60 : n ≤ 60) (a : Int) (p q : Int × Int × Sg) (e1 : p.1 = q.1) (e2 : p.2.1 = q.2.1) (e3 : Inv p.2.2 q.2.2) (e4 : q.2.2 173 3 = n) (e5 : -1 ≤ p.2.1) (e6 : p.2.1 < n) (e7 : thR n (p.2.1 + 1).toNat p.2.2 q.2.2) (e8 : p.1 = -1 ∨ ∃ b : Nat, p.1 = b ∧ p.2.1 < b ∧ b < n ∧ mW (q.2.2 173) b 7 = 0) :
    (∃ b b', Gl_dearest_32_b 2 p.1 p.2.1 p.2.2 = some (.inr b) ∧ Mo_thread_22_b a q.1 q.2.1 q.2.2 = some (.inr b') ∧ ∃ best σ' τ', b = .inr (best, σ') ∧ b' = ((if best = -1 then best else if a = 1 then best else τ' 188 best.toNat), τ') ∧ Inv σ' τ' ∧ (best = -1 ∨ ∃ b : Nat, best = b ∧ b < 60 ∧ σ' 167 b = τ' 188 b)) ∨
    ∃ c c', Gl_dearest_32_b 2 p.1 p.2.1 p.2.2 = some (.inl c) ∧ Mo_thread_22_b a q.1 q.2.1 q.2.2 = some (.inl c') ∧ (c.1 = c'.1 ∧ c.2.1 = c'.2.1 ∧ Inv c.2.2 c'.2.2 ∧ c'.2.2 173 3 = n ∧ -1 ≤ c.2.1 ∧ c.2.1 < n ∧ thR n (c.2.1 + 1).toNat c.2.2 c'.2.2 ∧ (c.1 = -1 ∨ ∃ b : Nat, c.1 = b ∧ c.2.1 < b ∧ b < n ∧ mW (c'.2.2 173) b 7 = 0)) ∧ (c.2.1 + 1).toNat < (p.2.1 + 1).toNat := by
  obtain ⟨best, i, σ⟩ := p
  obtain ⟨best', i', τ⟩ := q
  dsimp only at e1 e2 e3 e4 e5 e6 e7 e8 ⊢
  subst e1 e2
  by_cases hi : i < 0
  · left
    have hi1 : i = -1 := by omega
    subst hi1
    have f1 : Gl_dearest_32_b 2 best (-1) σ = some (.inr (.inr (best, σ))) := by
      unfold Gl_dearest_32_b; rw [if_pos (by omega)]
    have f2 : Mo_thread_22_b a best (-1) τ = some (.inr ((if best = -1 then best else if a = 1 then best else τ 188 best.toNat), τ)) := by
      unfold Mo_thread_22_b
      rw [if_pos (by omega)]
      by_cases z : best = -1
      · rw [if_pos z, if_pos z]
      · rw [if_neg z, if_neg z]
        by_cases z1 : a = 1
        · rw [if_pos z1, if_pos z1]
        · rcases e8 with e8 | ⟨b, b1, b2, b3, b4⟩
          · exact absurd e8 z
          · rw [if_neg z1, if_neg z1, ix_q (by omega) (by omega)]
    refine ⟨_, _, f1, f2, best, σ, τ, rfl, rfl, e3, ?_⟩
    rcases e8 with e8 | ⟨b, b1, b2, b3, b4⟩
    · exact .inl e8
    · exact .inr ⟨b, b1, by omega, (e7.2 b (by omega) b3 b4).1⟩
  · right
    obtain ⟨k, hk⟩ := Int.eq_ofNat_of_zero_le (show 0 ≤ i by omega)
    subst hk
    rw [show (((k : Nat) : Int) + 1).toNat = k + 1 by omega] at e7
    have hk : k < n := by omega
    obtain ⟨hT, hW, -⟩ := e3.1
    have hM := hW.2.2.2.2 k (by omega)
    have s7 : σ 13 k = mW (τ 173) k 7 := hT.2.2.2.2.2.2.2 k 7 (by omega) (by decide)
    by_cases h7 : mW (τ 173) k 7 = 0
    · have h8 : best = -1 ∨ ∃ b : Nat, best = b ∧ k < b ∧ b < n := by
        rcases e8 with e8 | ⟨b, b1, b2, b3, b4⟩
        · exact .inl e8
        · exact .inr ⟨b, b1, by omega, b3⟩
      have h6 : mW (τ 173) k 6 < k := by
        rcases hM.2.2.2.2.2.2.1 with g | ⟨x, g1, g2, g3⟩ <;> omega
      obtain ⟨σ', c1, c2, c3, c4⟩ := thC hn60 hk e3 e4 e7 h7 best h8
      have d1 := thN hn60 hk hW e4 e7 h7 a best h8 rfl
      have hR := thR_step hk e7 h7 hM.2.2.2.2.1 rfl (σ' := σ') (τ' := su τ 188 k (mW (τ 173) k 4 + mxF (τ 173) (τ 188) k (k + 1) (n - (k + 1)))) c3 su_s (su_c (by decide)) c4 h6
      have hI' : Inv σ' (su τ 188 k (mW (τ 173) k 4 + mxF (τ 173) (τ 188) k (k + 1) (n - (k + 1)))) := e3.scr (fun c hc => c2 c (by omega)) (by rw [c2 _ (by decide)]) (by rw [c2 _ (by decide)]) (by rw [c2 _ (by decide)]) (fun c hc => su_c (by omega)) (fun j _ => by rw [su_c (by decide)])
      refine ⟨_, _, c1, d1, ⟨?_, rfl, hI', ?_, by dsimp only; omega, by dsimp only; omega, ?_, ?_⟩, by dsimp only; omega⟩
      · dsimp only
        rcases e8 with e8 | ⟨b, b1, b2, b3, b4⟩
        · rw [if_pos e8, if_pos e8]
        · have : ¬ best = -1 := by omega
          rw [if_neg this, if_neg this, c3, b1, Int.toNat_natCast, c4 b (by omega), if_neg (show ¬ mW (τ 173) k 6 = ((b : Nat) : Int) by omega), (e7.2 b (by omega) b3 b4).1]
      · dsimp only; rw [su_c (by decide)]; exact e4
      · dsimp only
        rw [show ((k : Int) - 1 + 1).toNat = k by omega]; exact hR
      · dsimp only
        rw [su_c (by decide)]
        right
        rcases e8 with e8 | ⟨b, b1, b2, b3, b4⟩
        · rw [if_pos e8]; exact ⟨k, rfl, by omega, hk, h7⟩
        · have : ¬ best = -1 := by omega
          rw [if_neg this]
          split
          · exact ⟨b, b1, by omega, b3, b4⟩
          · exact ⟨k, rfl, by omega, hk, h7⟩
    · have h71 : mW (τ 173) k 7 = 1 := by
        rcases hM.2.2.2.2.2.2.2.1 with g | g
        · exact absurd g h7
        · exact g
      refine ⟨_, _, thB (by omega) (by omega) (by rw [Int.toNat_natCast, s7]; exact h7), thQ (by omega) h71, ⟨rfl, rfl, e3, e4, by dsimp only; omega, by dsimp only; omega, ?_, ?_⟩, by dsimp only; omega⟩
      · dsimp only
        rw [show ((k : Int) - 1 + 1).toNat = k by omega]; exact thR_back hk e7 h7
      · dsimp only
        rcases e8 with e8 | ⟨b, b1, b2, b3, b4⟩
        · exact .inl e8
        · exact .inr ⟨b, b1, by omega, b3, b4⟩
theorem p_thread {σ τ : Sg} (h : Inv σ τ) (a : Int) : Same2 (Td_thread a σ) (Mo_thread a τ) := by
  unfold Td_thread Mo_thread
  rw [within_q, isIn_q, b1_q, b1_q]
  by_cases hc : 0 ≤ a ∧ a ≤ 1
  · rw [if_pos hc, i10, i10]
    obtain ⟨hT, hW, -⟩ := h.1
    have h60 := hW.2.2.1
    obtain ⟨n, hn⟩ := Int.eq_ofNat_of_zero_le h60.1
    have h22 : σ 2 2 = n := hT.2.2.1.trans hn
    obtain ⟨σ1, z1, z2, z3⟩ := thZ (n := n) (by omega) n 0 σ (by omega) h22 (fun j hj => (by omega))
    have hI1 : Inv σ1 τ := h.scr (fun k hk => z3 k (by omega)) (by rw [z3 _ (by decide)]) (by rw [z3 _ (by decide)]) (by rw [z3 _ (by decide)]) (fun _ _ => rfl) (fun _ _ => rfl)
    have h22' : σ1 2 2 = n := by rw [z3 2 (by decide)]; exact h22
    have key := wl_two (B := fun p : Int × Int × Sg => Gl_dearest_32_b 2 p.1 p.2.1 p.2.2) (B' := fun p : Int × Int × Sg => Mo_thread_22_b a p.1 p.2.1 p.2.2) (fun p => (p.2.1 + 1).toNat)
      (fun p q => p.1 = q.1 ∧ p.2.1 = q.2.1 ∧ Inv p.2.2 q.2.2 ∧ q.2.2 173 3 = n ∧ -1 ≤ p.2.1 ∧ p.2.1 < n ∧ thR n (p.2.1 + 1).toNat p.2.2 q.2.2 ∧ (p.1 = -1 ∨ ∃ b : Nat, p.1 = b ∧ p.2.1 < b ∧ b < n ∧ mW (q.2.2 173) b 7 = 0))
      (fun b b' => ∃ best σ' τ', b = .inr (best, σ') ∧ b' = ((if best = -1 then best else if a = 1 then best else τ' 188 best.toNat), τ') ∧ Inv σ' τ' ∧ (best = -1 ∨ ∃ b : Nat, best = b ∧ b < 60 ∧ σ' 167 b = τ' 188 b))
      (fun p q ⟨e1, e2, e3, e4, e5, e6, e7, e8⟩ => thL (by omega) a p q e1 e2 e3 e4 e5 e6 e7 e8) (-1, (n : Int) - 1, σ1) (-1, (n : Int) - 1, τ)
      ⟨rfl, rfl, hI1, hn, by dsimp only; omega, by dsimp only; omega, by
        dsimp only
        rw [show ((n : Int) - 1 + 1).toNat = n by omega]
        refine ⟨fun j hj => ?_, fun j h1 h2 => by omega⟩
        rw [z2 j hj, show n - n = 0 by omega]; rfl, .inl rfl⟩
    obtain ⟨b, b', k1, k2, best, σ', τ', rfl, rfl, k3, k4⟩ := key
    have g1 : Gl_dearest 2 σ = some (best, σ') := by
      unfold Gl_dearest
      rw [show (0 : Int) = ((0 : Nat) : Int) from rfl, z1]
      refine wl_end ?_
      show Gl_dearest_2_b 2 (n : Int) σ1 = _
      unfold Gl_dearest_2_b
      rw [h22', if_neg (by omega), ll_q, wr_q (by omega) (by omega)]
      exact k1
    rw [g1, b2_q, hn, wr_q (by omega) (by omega), ll_q]
    rw [show Mo_thread_22_w a (-1) ((n : Int) - 1) τ = _ from k2]
    by_cases z1 : a = 1
    · rw [if_pos z1]
      refine ⟨best, σ', τ', rfl, ?_, k3⟩
      by_cases z : best = -1
      · rw [if_pos z]
      · rw [if_neg z, if_pos z1]
    · rw [if_neg z1]
      rcases k4 with k4 | ⟨b, q1, q2, q3⟩
      · rw [if_pos k4]
        exact ⟨best, σ', τ', rfl, by rw [if_pos k4], k3⟩
      · have z : ¬ best = -1 := by omega
        rw [if_neg z, ix_q (by omega) (by omega)]
        refine ⟨_, σ', τ', rfl, ?_, k3⟩
        rw [if_neg z, if_neg z1, q1, Int.toNat_natCast, q3]
  · rw [if_neg hc, i00, i00]; exact ⟨_, _, _, rfl, rfl, h⟩
end Thread6
