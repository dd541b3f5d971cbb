/-! what is kept, then done: say, takeBack -/
section Say
variable {σ σ' τ τ' : Sg} {c d m : Nat}
theorem PG.fr (h : PG c d m σ τ) (hc : ∀ k, 61 ≤ k → k < 141 → σ' k = σ k) (h4 : τ' 172 4 = τ 172 4) (h5 : τ' 175 = τ 175) (h2 : τ 173 2 ≤ τ' 173 2) (ht : ∀ j, j < 2 → τ' 173 (548 + j) = τ 173 (548 + j)) : PG c d m σ' τ' := by
  obtain ⟨g1, g2, g3, g4, g5⟩ := h
  have hp : ∀ k, pT σ' k = pT σ k := fun k => by unfold pT; rw [hc 61 (by omega) (by omega)]
  have hr : ∀ k, 63 ≤ pT σ k ∧ pT σ k + 13 ≤ 141 := fun k => by unfold pT; omega
  have er : ∀ k, rwF τ' k = rwF τ k := fun k => by unfold rwF; rw [h5]
  refine ⟨by rw [hc 61 (by omega) (by omega)]; exact g1, by rw [h4]; exact g2, g3, by rw [hc 61 (by omega) (by omega)]; exact g4, fun i hi => ?_⟩
  obtain ⟨q1, q2, q3, q4, q5⟩ := g5 i hi
  have := hr (c - m + i)
  rw [hp, er]
  refine ⟨TR.agr q1 q2.2.2.1 (fun k a b _ => hc k (by omega) (by omega)) (fun _ _ _ => rfl), q2, q3, ⟨by omega, fun i' a b => by rw [er]; exact q4.2 i' a b⟩, fun j hj => ?_⟩
  rw [hc _ (by omega) (by omega), ht j hj]; exact q5 j hj
/-- both keep -/
theorem keepB (hW : WR 1 σ (τ 173)) (hP : PG c d m σ τ) (hI : IM σ τ) (hR : RD σ τ) : ∃ σ' τ', Pa_keep 2 σ = some σ' ∧ Mo_keeps τ = some τ' ∧ WR 1 σ' (τ' 173) ∧ PG (min (c + 1) 6) (min (d + 1) 6) (min (m + 1) 6) σ' τ' ∧ IM σ' τ' ∧ RD σ' τ' ∧ τ' 172 26 = 1 ∧ τ' 172 27 = -1 ∧ τ' 173 = τ 173 := by
  obtain ⟨w1, w2, w3, w4, w5⟩ := hW
  obtain ⟨g1, g2, g3, g4, g5⟩ := hP
  obtain ⟨σ', k1, k2, k3, k4, k5, k6, k7⟩ := kpC w1 w2 g1 (by omega) g4
  obtain ⟨τ', m1, m2, m3, m4, m5, m6, m7, m8⟩ := kpM g2 (by omega)
  have e173 : τ' 173 = τ 173 := m5 173 (by decide) (by decide)
  have hr : ∀ (σ : Sg) k, 63 ≤ pT σ k ∧ pT σ k + 13 ≤ 141 := fun σ k => by unfold pT; omega
  refine ⟨σ', τ', k1, m1, ?_, ⟨k2, m2, by omega, k3, fun i hi => ?_⟩, ?_, ?_, m6, m7, e173⟩
  · rw [e173]
    exact ⟨TR.agr w1 w2.2.2.1 (fun k a b _ => k7 k (by omega) (by omega)) (fun _ _ _ => rfl), w2, w3, WS.agr w4 (fun _ _ _ => rfl) (fun _ _ _ => rfl) (fun k hk => k7 k (by omega) (by omega)) (by rw [k7 1 (by decide) (by decide)]), by rw [k7 _ (by decide) (by decide)]; exact w5⟩
  · have row : ∀ x, x < min (m + 1) 6 - 1 → ∀ j, j < 548 → rwF τ' (min (d + 1) 6 - min (m + 1) 6 + x) j = rwF τ (d - m + (x + (m + 1 - min (m + 1) 6))) j := fun x hx j hj => by
      unfold rwF
      rw [m4 _ j (by omega) hj, show min (d + 1) 6 - min (m + 1) 6 + x + (d - (min (d + 1) 6 - 1)) = d - m + (x + (m + 1 - min (m + 1) 6)) by omega]
    have last : ∀ j, j < 548 → rwF τ' (min (d + 1) 6 - min (m + 1) 6 + (min (m + 1) 6 - 1)) j = τ 173 j := fun j hj => by
      unfold rwF
      rw [show min (d + 1) 6 - min (m + 1) 6 + (min (m + 1) 6 - 1) = min (d + 1) 6 - 1 by omega]
      exact m3 j hj
    by_cases e : i = min (m + 1) 6 - 1
    · subst e
      have ec : min (c + 1) 6 - min (m + 1) 6 + (min (m + 1) 6 - 1) = min (c + 1) 6 - 1 := by omega
      rw [ec]
      refine ⟨TR.agr k4 w2.2.2.1 (fun _ _ _ _ => rfl) (fun j _ hj => last j hj), WF.agr w2 (fun j _ hj => last j hj), by rw [last 0 (by decide)]; exact w3, ⟨by rw [last 2 (by decide), e173]; exact Int.le_refl _, fun i' a b => by omega⟩, fun j hj => ?_⟩
      rw [k5 j hj, e173]
      exact (w4.1 j hj).1
    · have hi' : i < min (m + 1) 6 - 1 := by omega
      obtain ⟨q1, q2, q3, q4, q5⟩ := g5 (i + (m + 1 - min (m + 1) 6)) (by omega)
      obtain ⟨p1, p2⟩ := k6 (min (c + 1) 6 - min (m + 1) 6 + i) (by omega)
      rw [show min (c + 1) 6 - min (m + 1) 6 + i + (c - (min (c + 1) 6 - 1)) = c - m + (i + (m + 1 - min (m + 1) 6)) by omega] at p1
      have hb := hr σ (c - m + (i + (m + 1 - min (m + 1) 6)))
      rw [p1] at p2 ⊢
      refine ⟨TR.agr q1 q2.2.2.1 (fun k a b _ => p2 k a b) (fun j _ hj => row i hi' j hj), WF.agr q2 (fun j _ hj => row i hi' j hj), by rw [row i hi' 0 (by decide)]; exact q3, ⟨by rw [row i hi' 2 (by decide), e173]; exact q4.1, fun i' a b => ?_⟩, fun j hj => ?_⟩
      · rw [row i hi' 2 (by decide)]
        by_cases e' : i' = min (m + 1) 6 - 1
        · rw [e', last 2 (by decide)]; exact q4.1
        · rw [row i' (by omega) 2 (by decide)]
          exact q4.2 _ (by omega) (by omega)
      · rw [p2 _ (by omega) (by omega), e173]; exact q5 j hj
  · exact IM.agr hI (by rw [k7 0 (by decide) (by decide)]) (fun k a b => k7 k (by omega) (by omega)) (m8 5 (by decide) (by decide) (by decide)) (m5 174 (by decide) (by decide))
  · exact RD.agr hR (by rw [k7 141 (by decide) (by decide)]) (by rw [k7 141 (by decide) (by decide)]) (by rw [k7 141 (by decide) (by decide)]) (k7 145 (by decide) (by decide)) (m8 16 (by decide) (by decide) (by decide)) (m8 23 (by decide) (by decide) (by decide)) (m8 25 (by decide) (by decide) (by decide)) (m5 180 (by decide) (by decide))
/-- a true course begins -/
theorem begC (hW : WR 1 σ (τ 173)) (hP : PG c d m σ τ) (hI : IM σ τ) (hR : RD σ τ) (h26 : τ 172 26 = 1) (h27 : τ 172 27 = -1) : ∃ σ', Co_begin 2 0 σ = some σ' ∧ CR 2 0 σ' τ ∧ PG c d m σ' τ ∧ IM σ' τ ∧ RD σ' τ := by
  obtain ⟨w1, w2, w3, w4, w5⟩ := hW
  have ec : ∀ c, c ≠ 152 → su (su (su σ 152 2 2) 152 3 0) 152 4 (-1) c = σ c := fun c hc => by rw [su_c hc, su_c hc, su_c hc]
  refine ⟨su (su (su σ 152 2 2) 152 3 0) 152 4 (-1), ?_, ⟨.inl ⟨rfl, rfl⟩, ⟨?_, ?_, by omega, ?_, .inl h27⟩, ?_, w2, ?_, ?_, fun _ => by rw [ec 15 (by decide)]; exact w5⟩, ?_, ?_, ?_⟩
  · unfold Co_begin
    rw [ll_q, zb_q0, ll_q, ll_q]
    rfl
  · rw [su_s, up_n (by decide), su_s, up_n (by decide), su_s, up_a]; rfl
  · rw [su_s, up_n (by decide), su_s, up_a]
  · rw [su_s, up_a, h27]
  · exact TR.agr w1 w2.2.2.1 (fun k a b _ => ec k (by omega)) (fun _ _ _ => rfl)
  · intro j hj
    rw [ec _ (by decide)]; exact (w4.1 j hj).1
  · exact WS.agr w4 (fun _ _ _ => rfl) (fun _ _ _ => rfl) (fun k hk => ec k (by omega)) (by rw [ec 1 (by decide)])
  · exact PG.fr hP (fun k a b => ec k (by omega)) rfl rfl (Int.le_refl _) (fun _ _ => rfl)
  · exact IM.agr hI (by rw [ec 0 (by decide)]) (fun k a b => ec k (by omega)) rfl rfl
  · exact RD.agr hR (by rw [ec 141 (by decide)]) (by rw [ec 141 (by decide)]) (by rw [ec 141 (by decide)]) (ec 145 (by decide)) rfl rfl rfl rfl
/-- and ends -/
theorem endC (hC : CR 2 0 σ' τ') (hF : FX 2 σ σ' τ τ') (h4 : τ' 172 4 = τ 172 4) (h5 : τ' 175 = τ 175) (hP : PG c d m σ τ) (hI : IM σ τ) (hR : RD σ τ) (h0 : τ' 173 0 ≤ 99999) : WR 1 σ' (τ' 173) ∧ PG c d m σ' τ' ∧ IM σ' τ' ∧ RD σ' τ' := by
  obtain ⟨c1, c2, c3, c4, c5, c6, c7⟩ := hC
  obtain ⟨f1, f2, f3, f4, f5, f6, f7⟩ := hF
  have e141 : σ' 141 = σ 141 := f1 141 (by omega) (by omega) (by omega) (by omega) (by omega)
  refine ⟨⟨c3, c4, h0, c6, c7 rfl⟩, PG.fr hP (fun k a b => f1 k (by omega) (by omega) (by omega) (by omega) (by omega)) h4 h5 f5 (fun j hj => f4 _ (by omega) (by omega)), ?_, ?_⟩
  · exact IM.agr hI (by rw [f1 0 (by omega) (by omega) (by omega) (by omega) (by omega)]) (fun k a b => f1 k (by omega) (by omega) (by omega) (by omega) (by omega)) (f7 5 (by decide) (by decide) (by decide)) (f3 174 (by decide) (by decide) (by decide) (by decide) (by decide))
  · exact RD.agr hR (by rw [e141]) (by rw [e141]) (by rw [e141]) (f1 145 (by omega) (by omega) (by omega) (by omega) (by omega)) (f7 16 (by decide) (by decide) (by decide)) (f7 23 (by decide) (by decide) (by decide)) (f7 25 (by decide) (by decide) (by decide)) (f3 180 (by decide) (by decide) (by decide) (by decide) (by decide))
/-- keep, begin: out of the invariant -/
theorem keepI (h : Inv σ τ) : ∃ c σ1 σ2 τ1, Pa_keep 2 σ = some σ1 ∧ Mo_keeps τ = some τ1 ∧ Co_begin 2 0 σ1 = some σ2 ∧ CR 2 0 σ2 τ1 ∧ PG c c c σ2 τ1 ∧ IM σ2 τ1 ∧ RD σ2 τ1 ∧ τ1 173 = τ 173 := by
  obtain ⟨c, hP⟩ := PG.of h.2.1
  obtain ⟨σ1, τ1, k1, k2, k3, k4, k5, k6, k7, k8, k9⟩ := keepB h.1 hP h.2.2.1 h.2.2.2
  obtain ⟨σ2, b1', b2', b3', b4', b5'⟩ := begC k3 k4 k5 k6 k7 k8
  exact ⟨_, σ1, σ2, τ1, k1, k2, b1', b2', b3', b4', b5', k9⟩
theorem p_say (h : Inv σ τ) (a b c e : Int) : Same2 (Td_say a b c e σ) (Mo_say a b c e τ) := by
  unfold Td_say Mo_say
  rw [isOneC_q, isOneM_q, b1_q, b1_q]
  by_cases ha : a = 0 ∨ a = 1
  · rw [if_pos ha, i10, i10, within_q, isIn_q, b1_q, b1_q]
    by_cases hb : 1 ≤ b ∧ b ≤ 99
    · rw [if_pos hb, i10, i10, within_q, isIn_q, b1_q, b1_q]
      by_cases hc : 0 ≤ c ∧ c ≤ 9
      · rw [if_pos hc, i10, i10]
        obtain ⟨hT, hW, hM9, -⟩ := h.1
        have b60 := hW.2.2.1
        obtain ⟨n, hn⟩ := Int.eq_ofNat_of_zero_le b60.1
        have hn : τ 173 3 = (n : Int) := hn
        unfold Ta_isFull
        rw [show σ 2 2 = (n : Int) from hT.2.2.1.trans hn, hn]
        by_cases full : n < 60
        · rw [if_pos (show (n : Int) < 60 by omega), b1_q, i00, if_neg (show ¬ (n : Int) = 60 by omega)]
          obtain ⟨cc, σ1, σ2, τ1, k1, k2, k3, C, P, I, R, e173⟩ := keepI h
          have ht : (if e = 0 then some (0 : Int) else some 1) = some (if e = 0 then 0 else 1) := by split <;> rfl
          obtain ⟨σ', τ', d1, d2, d3, d4, d5⟩ := C.says (by rw [e173]; exact hn) full ha hb hc (s := if e = 0 then 0 else 1) (by split <;> simp)
          obtain ⟨w1, w2, w3, w4⟩ := endC d3 d4.x (by rw [d4.2.2.1 172 (by decide) (by decide) (by decide)]) (d4.2.2.1 175 (by decide) (by decide) (by decide)) P I R (by rw [d5, e173]; exact hM9)
          refine ⟨(n : Int), σ', τ', ?_, ?_, w1, w2.to, w3, w4⟩
          · rw [k1, b1_q, k3, b1_q, ht, b1_q, d1, b2_q]
          · rw [k2, b1_q, ht, b1_q, d2, b2_q]
        · rw [if_neg (show ¬ (n : Int) < 60 by omega), b1_q, if_neg (by decide), if_pos (show (n : Int) = 60 by omega)]
          exact ⟨_, _, _, rfl, rfl, h⟩
      · rw [if_neg hc, i00, i00]; exact ⟨_, _, _, rfl, rfl, h⟩
    · rw [if_neg hb, i00, i00]; exact ⟨_, _, _, rfl, rfl, h⟩
  · rw [if_neg ha, i00, i00]; exact ⟨_, _, _, rfl, rfl, h⟩
theorem p_takeBack (h : Inv σ τ) (a : Int) : Same2 (Td_takeBack a σ) (Mo_takeBack a τ) := by
  obtain ⟨hT, hW, hM9, -⟩ := h.1
  have b60 := hW.2.2.1
  unfold Td_takeBack Mo_takeBack Ta_has Mo_isMessage
  rw [isIn_q, show σ 2 2 = τ 173 3 from hT.2.2.1]
  by_cases ha : 0 ≤ a ∧ a < τ 173 3
  · obtain ⟨i, hi⟩ := Int.eq_ofNat_of_zero_le ha.1
    have hi : a = (i : Int) := hi
    subst hi
    rw [if_neg (by omega), if_pos ha.2, b1_q, if_neg (by decide), wr_q (by omega) (by omega), if_pos (by omega), b1_q, b1_q, if_neg (by decide), isOpen_q hT ha.2 b60.2, isUnread_q (by omega) (hW.2.2.2.2 i ha.2).2.2.2.2.2.2.2.1, b1_q, b1_q]
    by_cases z : mW (τ 173) i 2 = -1 ∧ mW (τ 173) i 7 = 0
    · rw [if_pos z, if_neg (by decide), if_neg (by decide)]
      obtain ⟨cc, σ1, σ2, τ1, k1, k2, k3, C, P, I, R, e173⟩ := keepI h
      obtain ⟨σ', τ', d1, d2, d3, d4, d5, d6, d7⟩ := C.back (i := i) (by rw [e173]; exact ha.2) (by rw [e173]; exact z.1) (by rw [e173]; exact z.2)
      obtain ⟨w1, w2, w3, w4⟩ := endC d3 d4.x (by rw [d4.2.2.1 172 (by decide) (by decide) (by decide)]) (d4.2.2.1 175 (by decide) (by decide) (by decide)) P I R (by rw [d5 0 (by decide) (by decide) (by omega), e173]; exact hM9)
      refine ⟨1, σ', τ', ?_, ?_, w1, w2.to, w3, w4⟩
      · rw [k1, b1_q, k3, b1_q, d1, b1_q]
      · rw [k2, b1_q, d2, b1_q]
    · rw [if_neg z, i00, i00]; exact ⟨_, _, _, rfl, rfl, h⟩
  · have e1 : (if a < 0 then some 0 else if a < τ 173 3 then some 1 else some 0) = some (0 : Int) := by
      by_cases y : a < 0
      · rw [if_pos y]
      · rw [if_neg y, if_neg (by omega)]
    rw [e1, b1_q, i00, wr_q (by omega) (by omega), if_neg (by omega), b1_q, b1_q, i00]
    exact ⟨_, _, _, rfl, rfl, h⟩
end Say
