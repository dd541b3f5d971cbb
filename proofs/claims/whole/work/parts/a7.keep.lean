/-! what can be undone: the latest m on both sides -/
def rwF (τ : Sg) (k : Nat) : Nat → Int := fun j => τ 175 (548 * k + j)
def PG (c d m : Nat) (σ τ : Sg) : Prop :=
  σ 61 2 = c ∧ τ 172 4 = d ∧ (c ≤ 6 ∧ d ≤ 6 ∧ m ≤ c ∧ m ≤ d) ∧ (0 ≤ σ 61 1 ∧ σ 61 1 ≤ 5) ∧
  ∀ i, i < m → TR (pT σ (c - m + i)) σ (rwF τ (d - m + i)) ∧ WF (rwF τ (d - m + i)) ∧ rwF τ (d - m + i) 0 ≤ 99999 ∧ (rwF τ (d - m + i) 2 ≤ τ 173 2 ∧ ∀ i', i < i' → i' < m → rwF τ (d - m + i) 2 ≤ rwF τ (d - m + i') 2) ∧ ∀ j, j < 2 → σ (pT σ (c - m + i) + 3) j = τ 173 (548 + j)
section Keep
variable {σ τ : Sg}
theorem PG.of (h : PS σ τ) : ∃ c, PG c c c σ τ := by
  obtain ⟨g1, g2, g3, g4⟩ := h
  obtain ⟨c, hc⟩ := Int.eq_ofNat_of_zero_le g2.1
  have hc : τ 172 4 = (c : Int) := hc
  refine ⟨c, g1.trans hc, hc, by omega, g3, fun i hi => ?_⟩
  rw [Nat.sub_self, Nat.zero_add]
  obtain ⟨q1, q2, q3, q4, q5⟩ := g4 i (by omega)
  exact ⟨q1, q2, q3, ⟨q4.1, fun i' a b => by
    rw [Nat.zero_add]
    exact q4.2 i' a (by omega)⟩, q5⟩
theorem PG.to {c : Nat} (h : PG c c c σ τ) : PS σ τ := by
  obtain ⟨g1, g2, g3, g4, g5⟩ := h
  refine ⟨g1.trans g2.symm, by omega, g4, fun k hk => ?_⟩
  obtain ⟨q1, q2, q3, q4, q5⟩ := g5 k (by omega)
  rw [Nat.sub_self, Nat.zero_add] at q1 q2 q3 q4 q5
  exact ⟨q1, q2, q3, ⟨q4.1, fun k' a b => by
    have := q4.2 k' a (by omega)
    rw [Nat.zero_add] at this
    exact this⟩, q5⟩
/-- the reference keeps its row -/
theorem kpM {d : Nat} (hd : τ 172 4 = d) (h6 : d ≤ 6) : ∃ τ', Mo_keeps τ = some τ' ∧ τ' 172 4 = ((min (d + 1) 6 : Nat) : Int) ∧ (∀ j, j < 548 → τ' 175 (548 * (min (d + 1) 6 - 1) + j) = τ 173 j) ∧ (∀ k j, k < min (d + 1) 6 - 1 → j < 548 → τ' 175 (548 * k + j) = τ 175 (548 * (k + (d - (min (d + 1) 6 - 1))) + j)) ∧ (∀ c, c ≠ 172 → c ≠ 175 → τ' c = τ c) ∧ τ' 172 26 = 1 ∧ τ' 172 27 = -1 ∧ ∀ j, j ≠ 4 → j ≠ 26 → j ≠ 27 → τ' 172 j = τ 172 j := by
  -- the copy
  have cp : ∀ (τ0 : Sg) (e : Nat), e < 6 → τ0 172 4 = e → ∀ (m k : Nat) (τ1 : Sg), k + m = 548 → τ1 172 = τ0 172 → (∀ c, c ≠ 175 → τ1 c = τ0 c) → (∀ j, j < k → τ1 175 (548 * e + j) = τ0 173 j) → (∀ j, j < 548 * e → τ1 175 j = τ0 175 j) → ∃ τ', Mo_keeps_52_w (k : Int) τ1 = some τ' ∧ τ' 172 4 = ((e + 1 : Nat) : Int) ∧ (∀ j, j < 548 → τ' 175 (548 * e + j) = τ0 173 j) ∧ (∀ j, j < 548 * e → τ' 175 j = τ0 175 j) ∧ (∀ c, c ≠ 172 → c ≠ 175 → τ' c = τ0 c) ∧ τ' 172 26 = 1 ∧ τ' 172 27 = -1 ∧ ∀ j, j ≠ 4 → j ≠ 26 → j ≠ 27 → τ' 172 j = τ0 172 j := by
    intro τ0 e he h4 m
    induction m with
    | zero =>
      intro k τ1 hk h1 h2 h3 h5
      refine ⟨su (su (su τ1 172 4 ((e + 1 : Nat) : Int)) 172 26 1) 172 27 (-1), wl_end ?_, ?_, fun j hj => ?_, fun j hj => ?_, fun c a b => ?_, ?_, ?_, fun j a b d => ?_⟩
      · show Mo_keeps_52_b (k : Int) τ1 = _
        unfold Mo_keeps_52_b
        rw [if_neg (by omega), h1, h4, wr_q (by omega) (by omega), ll_q, ll_q, ll_q]
        rfl
      · rw [su_s, up_n (by decide), su_s, up_n (by decide), su_s, up_a]
      · rw [su_c (by decide), su_c (by decide), su_c (by decide)]; exact h3 j (by omega)
      · rw [su_c (by decide), su_c (by decide), su_c (by decide)]; exact h5 j hj
      · rw [su_c a, su_c a, su_c a, h2 c b]
      · rw [su_s, up_n (by decide), su_s, up_a]
      · rw [su_s, up_a]
      · rw [su_s, up_n d, su_s, up_n b, su_s, up_n a, h1]
    | succ m ih =>
      intro k τ1 hk h1 h2 h3 h5
      obtain ⟨τ', g1, g2⟩ := ih (k + 1) (su τ1 175 (548 * e + k) (τ0 173 k)) (by omega) (by rw [su_c (by decide)]; exact h1) (fun c hc => by rw [su_c hc, h2 c hc]) (fun j hj => by
        rw [su_s]
        by_cases z : j = k
        · rw [z, up_a]
        · rw [up_n (by omega)]; exact h3 j (by omega)) (fun j hj => by rw [su_s, up_n (by omega)]; exact h5 j hj)
      refine ⟨τ', (wl_go ?_).trans g1, g2⟩
      show Mo_keeps_52_b (k : Int) τ1 = _
      unfold Mo_keeps_52_b
      rw [if_pos (by omega), ix_q (by omega) (by omega), h1, h4, ix_q (by omega) (by omega), ll_q, wr_q (by omega) (by omega), ll_q, show (548 * ((e : Nat) : Int) + (k : Int)).toNat = 548 * e + k by omega, Int.toNat_natCast, h2 173 (by decide)]
      rfl
  by_cases z : d = 6
  · subst z
    have sh : ∀ (m k : Nat) (τ1 : Sg), k + m = 2740 → (∀ c, c ≠ 175 → τ1 c = τ c) → (∀ j, j < k → τ1 175 j = τ 175 (j + 548)) → (∀ j, k ≤ j → τ1 175 j = τ 175 j) → ∃ τ', Mo_keeps_11_w (k : Int) τ1 = some τ' ∧ (∀ j, j < 2740 → τ' 175 j = τ 175 (j + 548)) ∧ (∀ c, c ≠ 172 → c ≠ 175 → τ' c = τ c) ∧ τ' 172 4 = 5 ∧ ∀ j, j ≠ 4 → τ' 172 j = τ 172 j := by
      intro m
      induction m with
      | zero =>
        intro k τ1 hk h1 h2 h3
        refine ⟨su τ1 172 4 5, wl_end ?_, fun j hj => ?_, fun c a b => ?_, ?_, fun j a => ?_⟩
        · show Mo_keeps_11_b (k : Int) τ1 = _
          unfold Mo_keeps_11_b
          rw [if_neg (by omega), h1 172 (by decide), hd, wr_q (by decide) (by decide), ll_q]
          rfl
        · rw [su_c (by decide)]; exact h2 j (by omega)
        · rw [su_c a, h1 c b]
        · rw [su_s, up_a]
        · rw [su_s, up_n a, h1 172 (by decide)]
      | succ m ih =>
        intro k τ1 hk h1 h2 h3
        obtain ⟨τ', g1, g2⟩ := ih (k + 1) (su τ1 175 k (τ 175 (k + 548))) (by omega) (fun c hc => by rw [su_c hc, h1 c hc]) (fun j hj => by
          rw [su_s]
          by_cases z : j = k
          · rw [z, up_a]
          · rw [up_n z]; exact h2 j (by omega)) (fun j hj => by rw [su_s, up_n (by omega)]; exact h3 j (by omega))
        refine ⟨τ', (wl_go ?_).trans g1, g2⟩
        show Mo_keeps_11_b (k : Int) τ1 = _
        unfold Mo_keeps_11_b
        rw [if_pos (by omega), ix_q (by omega) (by omega), ix_q (by omega) (by omega), ll_q, wr_q (by omega) (by omega), ll_q, show ((k : Int) + 548).toNat = k + 548 by omega, Int.toNat_natCast, h3 (k + 548) (by omega)]
        rfl
    obtain ⟨τ1, s1, s2, s3, s4, s5⟩ := sh 2740 0 τ (by omega) (fun _ _ => rfl) (fun j hj => (by omega)) (fun _ _ => rfl)
    obtain ⟨τ', g1, g2, g3, g4, g5, g6, g7, g8⟩ := cp τ1 5 (by decide) s4 548 0 τ1 (by omega) rfl (fun _ _ => rfl) (fun j hj => (by omega)) (fun _ _ => rfl)
    refine ⟨τ', ?_, g2, fun j hj => ?_, fun k j hk hj => ?_, fun c a b => by rw [g5 c a b, s3 c a b], g6, g7, fun j a b c => by rw [g8 j a b c, s5 j a]⟩
    · unfold Mo_keeps
      rw [hd, if_pos (show ((6 : Nat) : Int) = 6 from rfl), show Mo_keeps_11_w 0 τ = some τ1 from s1, b1_q]
      exact g1
    · rw [show min (6 + 1) 6 - 1 = 5 from rfl, g3 j hj, s3 173 (by decide) (by decide)]
    · have hk : k < 5 := hk
      rw [show k + (6 - (min (6 + 1) 6 - 1)) = k + 1 from rfl, g4 _ (by omega), s2 _ (by omega), show 548 * k + j + 548 = 548 * (k + 1) + j by omega]
  · obtain ⟨τ', g1, g2, g3, g4, g5, g6, g7, g8⟩ := cp τ d (by omega) hd 548 0 τ (by omega) rfl (fun _ _ => rfl) (fun j hj => (by omega)) (fun _ _ => rfl)
    have em : min (d + 1) 6 = d + 1 := by omega
    refine ⟨τ', ?_, by rw [em]; exact g2, fun j hj => ?_, fun k j hk hj => ?_, g5, g6, g7, g8⟩
    · unfold Mo_keeps
      rw [hd, if_neg (by omega), b1_q]
      exact g1
    · rw [show min (d + 1) 6 - 1 = d by omega]; exact g3 j hj
    · rw [show k + (d - (min (d + 1) 6 - 1)) = k by omega]
      exact g4 _ (by omega)
/-- the class keeps its talk -/
theorem kpC {w : Nat → Int} (hT : TR 2 σ w) (hW : WF w) {c : Nat} (hc : σ 61 2 = c) (h6 : c ≤ 6) (hf : 0 ≤ σ 61 1 ∧ σ 61 1 ≤ 5) : ∃ σ', Pa_keep 2 σ = some σ' ∧ σ' 61 2 = ((min (c + 1) 6 : Nat) : Int) ∧ (0 ≤ σ' 61 1 ∧ σ' 61 1 ≤ 5) ∧ TR (pT σ' (min (c + 1) 6 - 1)) σ' w ∧ (∀ j, j < 2 → σ' (pT σ' (min (c + 1) 6 - 1) + 3) j = σ 5 j) ∧ (∀ k, k < min (c + 1) 6 - 1 → pT σ' k = pT σ (k + (c - (min (c + 1) 6 - 1))) ∧ ∀ e, pT σ' k ≤ e → e < pT σ' k + 13 → σ' e = σ e) ∧ ∀ e, e ≠ 61 → (e < 63 ∨ 141 ≤ e) → σ' e = σ e := by
  obtain ⟨n, hn⟩ := Int.eq_ofNat_of_zero_le hW.2.2.1.1
  have hn : w 3 = (n : Int) := hn
  have b60 := hW.2.2.1
  obtain ⟨f, hf'⟩ := Int.eq_ofNat_of_zero_le hf.1
  have hf' : σ 61 1 = (f : Int) := hf'
  have es : Int.tmod ((f : Int) + (c : Int)) 6 = (((f + c) % 6 : Nat) : Int) := by
    rw [Int.tmod_eq_emod_of_nonneg (by omega)]; omega
  have el : 63 ≤ 62 + 1 + 13 * ((f + c) % 6) ∧ 62 + 1 + 13 * ((f + c) % 6) + 13 ≤ 141 := by omega
  obtain ⟨σ1, c1, c2, c3, c4, c5⟩ := copC (t := 62 + 1 + 13 * ((f + c) % 6)) (a := 2) (σ := σ) (by omega) (n := n) (by omega) (hT.2.2.1.trans hn)
  have hT1 := TR.cop (t := 62 + 1 + 13 * ((f + c) % 6)) hT hn c3 c4 c5
  have e61 : σ1 61 = σ 61 := c2 61 (by omega)
  have run : Pa_keep 2 σ = if (c : Int) < 6 then some (su σ1 61 2 ((c : Int) + 1)) else some (su σ1 61 1 (((f + 1) % 6 : Nat) : Int)) := by
    unfold Pa_keep
    rw [hf', hc, wr_q (by omega) (by omega), es, ix_q (by omega) (by omega), Int.toNat_natCast, c1, b1_q, e61, hc, hf']
    by_cases z : (c : Int) < 6
    · rw [if_pos z, if_pos z, wr_q (by omega) (by omega), ll_q]
    · rw [if_neg z, if_neg z, wr_q (by omega) (by omega), ll_q, Int.tmod_eq_emod_of_nonneg (by omega)]
      rfl
  by_cases z : (c : Int) < 6
  · rw [if_pos z] at run
    have em : min (c + 1) 6 = c + 1 := by omega
    rw [em, show c + 1 - 1 = c by omega]
    have ep : ∀ k, pT (su σ1 61 2 ((c : Int) + 1)) k = pT σ k := fun k => by unfold pT; rw [su_s, up_n (by decide), e61]
    have epc : pT σ c = 62 + 1 + 13 * ((f + c) % 6) := by unfold pT; rw [hf', Int.toNat_natCast]
    have ec : ∀ e, e ≠ 61 → su σ1 61 2 ((c : Int) + 1) e = σ1 e := fun e he => su_c he
    refine ⟨_, run, by rw [su_s, up_a]; rfl, by rw [su_s, up_n (by decide), e61]; exact hf, ?_, fun j hj => ?_, fun k hk => ⟨?_, fun e a b => ?_⟩, fun e a b => ?_⟩
    · rw [ep, epc]
      exact TR.agr hT1 hW.2.2.1 (fun k a b _ => ec k (by omega)) (fun _ _ _ => rfl)
    · rw [ep, epc, ec _ (by omega), c4 3 j (by decide) (by decide) hj]
    · rw [ep, show k + (c - c) = k by omega]
    · rw [ep] at a b
      unfold pT at a b
      rw [hf', Int.toNat_natCast] at a b
      have ne : (f + k) % 6 ≠ (f + c) % 6 := by omega
      rw [ec e (by omega), c2 e (by omega)]
    · rw [ec e a, c2 e (by omega)]
  · rw [if_neg z] at run
    have ec6 : c = 6 := by omega
    subst ec6
    have ep : ∀ k, pT (su σ1 61 1 (((f + 1) % 6 : Nat) : Int)) k = 63 + 13 * (((f + 1) % 6 + k) % 6) := fun k => by unfold pT; rw [su_s, up_a, Int.toNat_natCast]
    have ec : ∀ e, e ≠ 61 → su σ1 61 1 (((f + 1) % 6 : Nat) : Int) e = σ1 e := fun e he => su_c he
    refine ⟨_, run, by rw [su_s, up_n (by decide), e61]; exact hc, by rw [su_s, up_a]; omega, ?_, fun j hj => ?_, fun k hk => ⟨?_, fun e a b => ?_⟩, fun e a b => ?_⟩
    · rw [ep, show 63 + 13 * (((f + 1) % 6 + (min (6 + 1) 6 - 1)) % 6) = 62 + 1 + 13 * ((f + 6) % 6) by omega]
      exact TR.agr hT1 hW.2.2.1 (fun k a b _ => ec k (by omega)) (fun _ _ _ => rfl)
    · rw [ep, show 63 + 13 * (((f + 1) % 6 + (min (6 + 1) 6 - 1)) % 6) = 62 + 1 + 13 * ((f + 6) % 6) by omega, ec _ (by omega), c4 3 j (by decide) (by decide) hj]
    · rw [ep]
      unfold pT
      rw [hf', Int.toNat_natCast]
      omega
    · rw [ep] at a b
      have hk : k < 5 := hk
      have ne : ((f + 1) % 6 + k) % 6 ≠ (f + 6) % 6 := by omega
      rw [ec e (by omega), c2 e (by omega)]
    · rw [ec e a, c2 e (by omega)]
end Keep
