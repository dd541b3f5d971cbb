/-! what was told for a minute -/
def ltF (w : Nat → Int) (one : Int) : Nat → Int
  | 0 => -1
  | n + 1 => if mW w n 0 = one ∧ mW w n 2 = -1 ∧ mW w n 7 = 0 then (n : Int) else ltF w one n
theorem ltF_in {w : Nat → Int} {one : Int} : ∀ n : Nat, ltF w one n = -1 ∨ ∃ k : Nat, k < n ∧ ltF w one n = k ∧ mW w k 2 = -1 ∧ mW w k 7 = 0
  | 0 => .inl rfl
  | n + 1 => by
    unfold ltF
    by_cases z : mW w n 0 = one ∧ mW w n 2 = -1 ∧ mW w n 7 = 0
    · rw [if_pos z]; exact .inr ⟨n, by omega, rfl, z.2⟩
    · rw [if_neg z]
      rcases ltF_in (w := w) (one := one) n with h | ⟨k, h1, h2⟩
      · exact .inl h
      · exact .inr ⟨k, by omega, h2⟩
section Sayings
variable {t : Nat} {th : Int} {σ τ : Sg}
theorem ltC (hT : TR t σ (τ 173)) (hW : WF (τ 173)) {one : Int} : ∀ n : Nat, (n : Int) ≤ τ 173 3 → Ta_latestOpenOf_7_w σ t one ((n : Int) - 1) = some (ltF (τ 173) one n)
  | 0, _ => by
    refine wl_end ?_
    show Ta_latestOpenOf_7_b σ t one _ = _
    unfold Ta_latestOpenOf_7_b
    rw [if_pos (by omega)]; rfl
  | n + 1, hn => by
    have b60 := hW.2.2.1
    have hi : (n : Int) < τ 173 3 := by omega
    have ih := ltC hT hW (one := one) n (by omega)
    have io := isOpen_q hT hi b60.2
    have s0 := (TR.g hT hi).1
    unfold ltF
    have e : (((n + 1 : Nat) : Int) - 1) = (n : Int) := by omega
    rw [e]
    by_cases z0 : mW (τ 173) n 0 = one
    · by_cases z : mW (τ 173) n 2 = -1 ∧ mW (τ 173) n 7 = 0
      · rw [if_pos ⟨z0, z⟩]
        rw [if_pos z] at io
        refine wl_end ?_
        show Ta_latestOpenOf_7_b σ t one (n : Int) = _
        unfold Ta_latestOpenOf_7_b
        rw [if_neg (by omega), ix_q (by omega) (by omega), Int.toNat_natCast, s0, if_pos z0, io, b1_q, if_neg (by decide)]
      · rw [if_neg (fun y => z y.2), ← ih]
        rw [if_neg z] at io
        refine wl_go ?_
        show Ta_latestOpenOf_7_b σ t one (n : Int) = _
        unfold Ta_latestOpenOf_7_b
        rw [if_neg (by omega), ix_q (by omega) (by omega), Int.toNat_natCast, s0, if_pos z0, io, b1_q, i00, wr_q (by omega) (by omega), ll_q]
        rfl
    · rw [if_neg (fun y => z0 y.1), ← ih]
      refine wl_go ?_
      show Ta_latestOpenOf_7_b σ t one (n : Int) = _
      unfold Ta_latestOpenOf_7_b
      rw [if_neg (by omega), ix_q (by omega) (by omega), Int.toNat_natCast, s0, if_neg z0, wr_q (by omega) (by omega), ll_q]
      rfl
theorem ltM (hW : WF (τ 173)) {one : Int} {n : Nat} (hn : τ 173 3 = n) : ∀ m k : Nat, k + m = n → Mo_deletesLatest_4_w τ one (ltF (τ 173) one k) (k : Int) = Mo_deletesLatest_4_w τ one (ltF (τ 173) one n) (n : Int)
  | 0, k, hk => by rw [show k = n by omega]
  | m + 1, k, hk => by
    have b60 := hW.2.2.1
    have ih := ltM hW (one := one) hn m (k + 1) (by omega)
    have m7 := (hW.2.2.2.2 k (by omega)).2.2.2.2.2.2.2.1
    have iu := isUnread_q (τ := τ) (i := k) (by omega) m7
    have o0 := of_0 (τ := τ) (i := k) (by omega)
    rw [← ih]
    refine wl_go ?_
    show Mo_deletesLatest_4_b τ one (ltF (τ 173) one k) (k : Int) = _
    unfold Mo_deletesLatest_4_b
    rw [hn, if_pos (by omega), o0, b1_q, wr_q (by omega) (by omega)]
    rw [show ltF (τ 173) one (k + 1) = if mW (τ 173) k 0 = one ∧ mW (τ 173) k 2 = -1 ∧ mW (τ 173) k 7 = 0 then (k : Int) else ltF (τ 173) one k from rfl]
    by_cases z0 : mW (τ 173) k 0 = one
    · rw [if_pos z0, iu, b1_q]
      by_cases z : mW (τ 173) k 2 = -1 ∧ mW (τ 173) k 7 = 0
      · rw [if_pos z, if_neg (by decide), if_pos ⟨z0, z⟩, ll_q]
        rfl
      · rw [if_neg z, i00, if_neg (fun y => z y.2), ll_q]
        rfl
    · rw [if_neg z0, if_neg (fun y => z0 y.1), ll_q]
      rfl
/-- one deletes his latest that is open -/
theorem CR.del (h : CR t th σ τ) (one : Int) : ∃ r σ' τ', Ta_latestOpenOf t one σ = some r ∧ (if r = -1 then some σ else Co_withdraw r σ) = some σ' ∧ Mo_deletesLatest one τ = some τ' ∧ CR t th σ' τ' ∧ FR t σ σ' τ τ' ∧ τ' 173 0 = τ 173 0 := by
  have b60 := h.WF.2.2.1
  obtain ⟨n, hn⟩ := Int.eq_ofNat_of_zero_le b60.1
  have hn : τ 173 3 = (n : Int) := hn
  have e1 : Ta_latestOpenOf t one σ = some (ltF (τ 173) one n) := by
    unfold Ta_latestOpenOf
    rw [h.TR.2.2.1, hn, wr_q (by omega) (by omega), ll_q, ltC h.TR h.WF n (by omega)]
  have e2 : Mo_deletesLatest one τ = Mo_deletesLatest_4_w τ one (ltF (τ 173) one n) (n : Int) := ltM h.WF hn n 0 (by omega)
  rcases ltF_in (w := τ 173) (one := one) n with z | ⟨k, k1, k2, k3, k4⟩
  · refine ⟨_, σ, τ, e1, by rw [if_pos z], ?_, h, FR.refl, rfl⟩
    rw [e2]
    refine wl_end ?_
    show Mo_deletesLatest_4_b τ one (ltF (τ 173) one n) (n : Int) = _
    unfold Mo_deletesLatest_4_b
    rw [hn, if_neg (by omega), if_pos z]
  · obtain ⟨σ', τ', c1, c2, c3, c4, c5, c6, c7⟩ := h.back (i := k) (by omega) k3 k4
    refine ⟨_, σ', τ', e1, by rw [if_neg (by omega), k2]; exact c1, ?_, c3, c4, c5 0 (by decide) (by decide) (by omega)⟩
    rw [e2]
    refine wl_end ?_
    show Mo_deletesLatest_4_b τ one (ltF (τ 173) one n) (n : Int) = _
    unfold Mo_deletesLatest_4_b
    rw [hn, if_neg (by omega), if_neg (by omega), k2, c2, b1_q]
theorem CR.sa1 (h : CR t th σ τ) {i : Nat} (hi : (i : Int) < τ 173 552) (many : Int) : ∃ σ' τ', Co_followSayings_12_b (i : Int) σ = some (.inl ((i : Int) + 1, σ')) ∧ Mo_aMinute_9_b many (i : Int) τ = some (.inl ((i : Int) + 1, τ')) ∧ CR t th σ' τ' ∧ FR t σ σ' τ τ' ∧ τ' 173 0 = τ 173 0 := by
  have htk := h.tkk
  obtain ⟨s1, s2, s3, s4⟩ := h.SR
  have b60 := h.WF.2.2.1
  obtain ⟨g1, g2⟩ := s3 (by omega)
  have g2' : σ 23 2 = ((6 * (τ 173 552).toNat : Nat) : Int) := by omega
  have hln : ln (23 + 1) = 96 := by decide +kernel
  have cq : ∀ k : Nat, k < 6 → Sh_cell 23 (i : Int) (k : Int) σ = some (σ 24 (6 * i + k)) := fun k hk => by
    have := cell_q (σ := σ) (s := 23) (i := i) (k := k) (W := 6) g1 g2' (by omega) (by omega) (by omega)
    rw [show i * 6 + k = 6 * i + k by omega] at this
    exact this
  obtain ⟨q0, q0', q1, q1', q2⟩ := s4 i hi
  have c0 : Sh_cell 23 (i : Int) 0 σ = some (τ 173 (619 + 5 * i)) := by rw [← q0]; exact cq 0 (by decide)
  have c1 : Sh_cell 23 (i : Int) 1 σ = some (τ 173 (619 + 5 * i + 1)) := by rw [← q1]; exact cq 1 (by decide)
  have e0 : (619 + 5 * (i : Int)).toNat = 619 + 5 * i := by omega
  have e1 : (619 + 5 * (i : Int) + 1).toNat = 619 + 5 * i + 1 := by omega
  have e2 : (619 + 5 * (i : Int) + 2).toNat = 619 + 5 * i + 2 := by omega
  have e3 : (619 + 5 * (i : Int) + 3).toNat = 619 + 5 * i + 3 := by omega
  have e4 : (619 + 5 * (i : Int) + 4).toNat = 619 + 5 * i + 4 := by omega
  by_cases hm : τ 173 (619 + 5 * i) = τ 173 0
  · rcases q2 with ⟨q2, q3⟩ | ⟨q2, q3, q3', q4, q4', q5, q5'⟩
    · have c2 : Sh_cell 23 (i : Int) 2 σ = some 1 := by rw [← q2]; exact cq 2 (by decide)
      obtain ⟨r, σ', τ', d1, d2, d3, d4, d5, d6⟩ := h.del (τ 173 (619 + 5 * i + 1))
      refine ⟨σ', τ', ?_, ?_, d4, d5, d6⟩
      · unfold Co_followSayings_12_b
        rw [s1, if_pos (by omega), c0, b1_q, h.tn, isT_q htk, h.TR.1, if_pos hm, c1, b1_q, c2, b1_q, if_neg (by decide), isT_q htk, d1, b1_q, wr_q (by omega) (by omega)]
        by_cases z : r = -1
        · rw [if_pos z] at d2 ⊢
          cases d2
          rw [ll_q]
        · rw [if_neg z] at d2 ⊢
          rw [d2, b1_q, ll_q]
      · unfold Mo_aMinute_9_b
        rw [if_pos (by omega), ix_q (by omega) (by omega), e0, if_pos hm, wr_q (n := 619 + 5 * (i : Int)) (by omega) (by omega)]
        unfold Mo_doesSaying
        rw [ix_q (by omega) (by omega), e2, if_pos q3, ix_q (by omega) (by omega), e1, d3, b1_q, b1_q, wr_q (by omega) (by omega), ll_q]
    · have c2 : Sh_cell 23 (i : Int) 2 σ = some 0 := by rw [← q2]; exact cq 2 (by decide)
      have c3 : Sh_cell 23 (i : Int) 3 σ = some (τ 173 (619 + 5 * i + 2)) := by rw [← q3]; exact cq 3 (by decide)
      have c4 : Sh_cell 23 (i : Int) 4 σ = some (τ 173 (619 + 5 * i + 3)) := by rw [← q4]; exact cq 4 (by decide)
      have c5 : Sh_cell 23 (i : Int) 5 σ = some (τ 173 (619 + 5 * i + 4)) := by rw [← q5]; exact cq 5 (by decide)
      obtain ⟨n, hn⟩ := Int.eq_ofNat_of_zero_le b60.1
      have hn : τ 173 3 = (n : Int) := hn
      by_cases full : n < 60
      · obtain ⟨σ', τ', d1, d2, d3, d4, d5⟩ := h.says hn full q1' q3' q4' q5'
        refine ⟨σ', τ', ?_, ?_, d3, d4, d5⟩
        · unfold Co_followSayings_12_b
          rw [s1, if_pos (by omega), c0, b1_q, h.tn, isT_q htk, h.TR.1, if_pos hm, c1, b1_q, c2, b1_q, i00, c3, b1_q, c4, b1_q, c5, b1_q, d1, b2_q, wr_q (by omega) (by omega), ll_q]
        · unfold Mo_aMinute_9_b
          rw [if_pos (by omega), ix_q (by omega) (by omega), e0, if_pos hm, wr_q (n := 619 + 5 * (i : Int)) (by omega) (by omega)]
          unfold Mo_doesSaying
          rw [ix_q (by omega) (by omega), e2, if_neg (by omega), if_pos (by omega), ix_q (by omega) (by omega), ix_q (by omega) (by omega), ix_q (by omega) (by omega), ix_q (by omega) (by omega), e1, e3, e4, d2, b2_q, b1_q, wr_q (by omega) (by omega), ll_q]
      · refine ⟨σ, τ, ?_, ?_, h, FR.refl, rfl⟩
        · unfold Co_followSayings_12_b
          rw [s1, if_pos (by omega), c0, b1_q, h.tn, isT_q htk, h.TR.1, if_pos hm, c1, b1_q, c2, b1_q, i00, c3, b1_q, c4, b1_q, c5, b1_q]
          unfold Co_utter Ta_add Ta_isFull
          rw [h.tn, isT_q htk, h.TR.2.2.1, if_neg (by omega), b1_q, if_neg (by decide), b2_q, if_pos rfl, b2_q, wr_q (by omega) (by omega), ll_q]
        · unfold Mo_aMinute_9_b
          rw [if_pos (by omega), ix_q (by omega) (by omega), e0, if_pos hm, wr_q (n := 619 + 5 * (i : Int)) (by omega) (by omega)]
          unfold Mo_doesSaying
          rw [ix_q (by omega) (by omega), e2, if_neg (by omega), if_neg (by omega), b1_q, wr_q (by omega) (by omega), ll_q]
  · refine ⟨σ, τ, ?_, ?_, h, FR.refl, rfl⟩
    · unfold Co_followSayings_12_b
      rw [s1, if_pos (by omega), c0, b1_q, h.tn, isT_q htk, h.TR.1, if_neg hm, wr_q (by omega) (by omega), ll_q]
    · unfold Mo_aMinute_9_b
      rw [if_pos (by omega), ix_q (by omega) (by omega), e0, if_neg hm, wr_q (by omega) (by omega), ll_q]
theorem CR.say (many : Int) {n : Nat} : ∀ (m i : Nat) (σ τ : Sg), i + m = n → τ 173 552 = n → CR t th σ τ → ∃ σ' τ', Co_followSayings_12_w (i : Int) σ = some σ' ∧ Mo_aMinute_9_w many (i : Int) τ = Mo_aMinute_9_w many (n : Int) τ' ∧ CR t th σ' τ' ∧ FR t σ σ' τ τ' ∧ τ' 173 0 = τ 173 0
  | 0, i, σ, τ, hi, hn, h => by
    refine ⟨σ, τ, ?_, by rw [show i = n by omega], h, FR.refl, rfl⟩
    refine wl_end ?_
    show Co_followSayings_12_b (i : Int) σ = _
    unfold Co_followSayings_12_b
    rw [h.SR.1, hn, if_neg (by omega)]
  | m + 1, i, σ, τ, hi, hn, h => by
    obtain ⟨σ1, τ1, a1, a2, a3, a4, a5⟩ := h.sa1 (i := i) (by omega) many
    obtain ⟨σ', τ', b1', b2', b3', b4', b5'⟩ := CR.say many (n := n) m (i + 1) σ1 τ1 (by omega) (by rw [a4.2.2.2.1 552 (by decide) (by decide)]; exact hn) a3
    refine ⟨σ', τ', ?_, ?_, b3', a4.trans b4', b5'.trans a5⟩
    · rw [← b1']; exact wl_go a1
    · rw [← b2']; exact wl_go a2
end Sayings
