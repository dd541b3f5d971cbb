/-! set, time, table -/
theorem HR.ag {s c w w' : Nat → Int} (h : HR s c w) (e : ∀ j, j = 551 ∨ (555 ≤ j ∧ j < 619) → w' j = w j) : HR s c w' := by
  obtain ⟨a1, a2, a3, a4, a5⟩ := h
  unfold HR
  rw [e 551 (by omega)]
  refine ⟨a1, a2, a3, fun j hj => ?_, fun i hi => ?_⟩
  · rw [e _ (by omega)]; exact a4 j hj
  · rw [e _ (by omega), e _ (by omega), e _ (by omega), e _ (by omega)]; exact a5 i hi
theorem SR.ag {s c w w' : Nat → Int} (h : SR s c w) (e : ∀ j, j = 552 ∨ (619 ≤ j ∧ j < 699) → w' j = w j) : SR s c w' := by
  obtain ⟨s1, s2, s3, s4⟩ := h
  unfold SR
  rw [e 552 (by omega)]
  refine ⟨s1, s2, s3, fun i hi => ?_⟩
  rw [e _ (by omega), e _ (by omega), e _ (by omega), e _ (by omega), e _ (by omega)]; exact s4 i hi
theorem BR.ag {s c w w' : Nat → Int} (h : BR s c w) (e : ∀ j, j = 553 ∨ (699 ≤ j ∧ j < 715) → w' j = w j) : BR s c w' := by
  obtain ⟨c1, c2, c3, c4⟩ := h
  unfold BR
  rw [e 553 (by omega)]
  refine ⟨c1, c2, c3, fun j hj => ?_⟩
  rw [e _ (by omega)]; exact c4 j hj
theorem LR.ag {s c d w w' : Nat → Int} (h : LR s c d w) (e : ∀ j, j = 550 ∨ (1333 ≤ j ∧ j < 2217) → w' j = w j) : LR s c d w' := by
  obtain ⟨l1, l2, l3, l4, l5, l6⟩ := h
  unfold LR
  rw [e 550 (by omega)]
  refine ⟨l1, l2, l3, l4, fun i hi => ?_, fun j hj => ?_⟩
  · obtain ⟨q1, q2, q3, q4, q5, q6, q7⟩ := l5 i hi
    have r1 := e (1333 + i) (by omega)
    have r2 := e (1349 + i) (by omega)
    have r3 := e (1365 + i) (by omega)
    have r4 := e (1381 + i) (by omega)
    rw [r1, r2, r3, r4]
    refine ⟨q1, q2, q3, q4, q5, ?_, fun hlt => ?_⟩
    · rw [tyN_agr (k := fun j => w (1397 + 2 * j)) _ _ _ (fun j g1 g2 => e _ (by omega))]; exact q6
    · rw [tyN_agr (k := fun j => w (1397 + 2 * j)) _ _ _ (fun j g1 g2 => e _ (by omega))]; exact q7 hlt
  · rw [e _ (by omega), e _ (by omega)]; exact l6 j hj
section Told
variable {σ τ : Sg}
/-- what a call leaves that writes into the class's cells of `now` and into the reference's row alone, and lets the talk, the past, the image, the tape be -/
theorem Inv.told (h : Inv σ τ) {σ' τ' : Sg} (hc : ∀ k, (1 < k ∧ k < 16) ∨ (30 < k ∧ k < 172) ∨ k = 0 → σ' k = σ k) (ht : ∀ k, k ≠ 173 → τ' k = τ k) (hw : ∀ j, j < 550 ∨ (733 ≤ j ∧ j < 1333) → τ' 173 j = τ 173 j) (hS : WS 1 σ' (τ' 173)) : Inv σ' τ' := by
  obtain ⟨⟨hT, hW, hM, -, hB⟩, hP, hI, hR⟩ := h
  refine ⟨⟨TR.agr hT hW.2.2.1 (fun k _ _ _ => hc k (by omega)) (fun j _ _ => hw j (by omega)), WF.agr hW (fun j _ _ => hw j (by omega)), by rw [hw 0 (by omega)]; exact hM, hS, BK.agr hB hW.2.1 (hc _ (by omega)) (hw 2 (by omega)) (fun j _ _ => hw j (by omega))⟩, ?_, ?_, ?_⟩
  · exact PS.agr hP (fun k _ _ => hc k (by omega)) (by rw [ht 172 (by decide)]) (ht 175 (by decide)) (by rw [hw 2 (by omega)]; exact Int.le_refl _) (fun j _ => hw _ (by omega))
  · exact IM.agr hI (by rw [hc 0 (by omega)]) (fun k _ _ => hc k (by omega)) (by rw [ht 172 (by decide)]) (ht 174 (by decide))
  · exact RD.agr hR (by rw [hc 141 (by omega)]) (by rw [hc 141 (by omega)]) (by rw [hc 141 (by omega)]) (hc 145 (by omega)) (by rw [ht 172 (by decide)]) (by rw [ht 172 (by decide)]) (by rw [ht 172 (by decide)]) (ht 180 (by decide))
theorem p_time (h : Inv σ τ) (a : Int) : Same2 (Td_time a σ) (Mo_time a τ) := by
  have h0 := h
  obtain ⟨⟨hT, hW, hM, hS, hB⟩, hP, hI, hR⟩ := h
  obtain ⟨g1, g2, g3, g4, g5, ⟨t1, t2, t3⟩, g7⟩ := hS
  unfold Td_time Mo_time
  by_cases ha : a = -1
  · rw [if_pos ha, if_pos ha, ll_q, ll_q]
    refine ⟨_, _, _, rfl, rfl, h0.told (fun k _ => su_c (by omega)) (fun k hk => su_c hk) (fun j _ => by rw [su_s, up_n (by omega)]) ⟨fun j hj => ?_, ?_, ?_, ?_, ?_, ⟨?_, ?_, fun j hj => ?_⟩, fun k hk => ?_⟩⟩
    · rw [su_c (by omega), su_s, up_n (by omega)]; exact g1 j hj
    · rw [su_c (by omega), su_c (by omega), su_s]; exact HR.ag g2 (fun j _ => up_n (by omega))
    · rw [su_c (by omega), su_c (by omega), su_s]; exact SR.ag g3 (fun j _ => up_n (by omega))
    · rw [su_c (by omega), su_c (by omega), su_s]; exact BR.ag g4 (fun j _ => up_n (by omega))
    · rw [su_c (by omega), su_c (by omega), su_c (by omega), su_s]; exact LR.ag g5 (fun j _ => up_n (by omega))
    · rw [su_s, su_s, up_a, up_a]
    · rw [su_s, up_a]; omega
    · rw [su_s, up_a] at hj; omega
    · rw [su_c (by omega), su_s, up_n (by omega), up_n (by omega)]; exact g7 k hk
  · rw [if_neg ha, if_neg ha, within_q, isIn_q, b1_q, b1_q]
    by_cases hb : 0 ≤ a ∧ a ≤ 1439
    · rw [if_pos hb, i10, i10, t1]
      by_cases h10 : τ 173 554 = 10
      · rw [if_neg (by omega), if_pos h10]; exact ⟨_, _, _, rfl, rfl, h0⟩
      · obtain ⟨n, hn⟩ := Int.eq_ofNat_of_zero_le t2.1
        rw [if_pos (by omega), if_neg h10, ix_q (by omega) (by omega), ix_q (by omega) (by omega), ll_q, ll_q, ll_q, ll_q]
        rw [hn] at t1 t2 t3 h10 ⊢
        have e1 : (715 + ((n : Nat) : Int)).toNat = 715 + n := by omega
        rw [e1, Int.toNat_natCast]
        have c1 : su σ 29 n a 1 4 = (n : Int) := by rw [su_c (by decide), t1]
        have c2 : su τ 173 (715 + n) a 173 554 = (n : Int) := by rw [su_s, up_n (by omega), hn]
        rw [c1, c2, wr_q (by omega) (by omega)]
        have d1 : su (su σ 29 n a) 1 4 ((n : Int) + 1) 1 4 = (n : Int) + 1 := by rw [su_s, up_a]
        have d2 : su (su τ 173 (715 + n) a) 173 554 ((n : Int) + 1) 173 554 = (n : Int) + 1 := by rw [su_s, up_a]
        rw [d1, d2]
        refine ⟨_, _, _, rfl, rfl, h0.told (fun k _ => by rw [su_c (by omega), su_c (by omega)]) (fun k hk => by rw [su_c hk, su_c hk]) (fun j _ => by rw [su_s, up_n (by omega), su_s, up_n (by omega)]) ⟨fun j hj => ?_, ?_, ?_, ?_, ?_, ⟨?_, ?_, fun j hj => ?_⟩, fun k hk => ?_⟩⟩
        · rw [su_c (by omega), su_c (by omega), su_s, up_n (by omega), su_s, up_n (by omega)]; exact g1 j hj
        · rw [su_c (by omega), su_c (by omega), su_c (by omega), su_c (by omega), su_s, su_s]; exact HR.ag g2 (fun j _ => by rw [up_n (by omega), up_n (by omega)])
        · rw [su_c (by omega), su_c (by omega), su_c (by omega), su_c (by omega), su_s, su_s]; exact SR.ag g3 (fun j _ => by rw [up_n (by omega), up_n (by omega)])
        · rw [su_c (by omega), su_c (by omega), su_c (by omega), su_c (by omega), su_s, su_s]; exact BR.ag g4 (fun j _ => by rw [up_n (by omega), up_n (by omega)])
        · rw [su_c (by omega), su_c (by omega), su_c (by omega), su_c (by omega), su_c (by omega), su_c (by omega), su_s, su_s]; exact LR.ag g5 (fun j _ => by rw [up_n (by omega), up_n (by omega)])
        · rw [su_s, su_s, up_a, up_a]
        · rw [su_s, up_a]; omega
        · rw [su_s, up_a] at hj
          rw [su_c (by omega), su_s, su_s, up_n (w := su τ 173 (715 + n) a 173) (by omega), su_s]
          show up (σ 29) n a j = up (τ 173) (715 + n) a (715 + j) ∧ _
          by_cases z : j = n
          · subst z; rw [up_a, up_a]; exact ⟨rfl, hb⟩
          · rw [up_n z, up_n (by omega)]; exact t3 j (by omega)
        · rw [su_c (by omega), su_c (by omega), su_s, up_n (by omega), up_n (by omega), su_s, up_n (by omega), up_n (by omega)]; exact g7 k hk
    · rw [if_neg hb, i00, i00]; exact ⟨_, _, _, rfl, rfl, h0⟩
theorem p_table (h : Inv σ τ) (a b c : Int) : Same2 (Td_table a b c σ) (Mo_table a b c τ) := by
  have h0 := h
  obtain ⟨⟨hT, hW, hM, hS, hB⟩, hP, hI, hR⟩ := h
  obtain ⟨g1, g2, g3, g4, g5, g6, g7⟩ := hS
  unfold Td_table Mo_table
  rw [within_q, isIn_q, b1_q, b1_q]
  by_cases ha : 0 ≤ a ∧ a ≤ 3
  · rw [if_pos ha, i10, i10, within_q, isIn_q, b1_q, b1_q]
    by_cases hb : 0 ≤ b ∧ b ≤ 99
    · rw [if_pos hb, i10, i10, within_q, isIn_q, b1_q, b1_q]
      by_cases hc : 0 ≤ c ∧ c ≤ 99
      · rw [if_pos hc, i10, i10]
        obtain ⟨n, rfl⟩ := Int.eq_ofNat_of_zero_le ha.1
        have e1 : (725 + 2 * ((n : Nat) : Int)).toNat = 725 + 2 * n := by omega
        have e2 : (725 + 2 * ((n : Nat) : Int) + 1).toNat = 725 + 2 * n + 1 := by omega
        have e3 : (((n : Nat) : Int) + 4).toNat = n + 4 := by omega
        rw [ix_q (by omega) (by omega), ll_q, ix_q (by omega) (by omega), ll_q, ix_q (by omega) (by omega), ll_q, ix_q (by omega) (by omega), ll_q, e1, e2, e3, Int.toNat_natCast]
        refine ⟨_, _, _, rfl, rfl, h0.told (fun k _ => by rw [su_c (by omega), su_c (by omega)]) (fun k hk => by rw [su_c hk, su_c hk]) (fun j _ => by rw [su_s, up_n (by omega), su_s, up_n (by omega)]) ⟨fun j hj => ?_, ?_, ?_, ?_, ?_, ⟨?_, ?_, fun j hj => ?_⟩, fun k hk => ?_⟩⟩
        · rw [su_c (by omega), su_c (by omega), su_s, up_n (by omega), su_s, up_n (by omega)]; exact g1 j hj
        · rw [su_c (by omega), su_c (by omega), su_c (by omega), su_c (by omega), su_s, su_s]; exact HR.ag g2 (fun j _ => by rw [up_n (by omega), up_n (by omega)])
        · rw [su_c (by omega), su_c (by omega), su_c (by omega), su_c (by omega), su_s, su_s]; exact SR.ag g3 (fun j _ => by rw [up_n (by omega), up_n (by omega)])
        · rw [su_c (by omega), su_c (by omega), su_c (by omega), su_c (by omega), su_s, su_s]; exact BR.ag g4 (fun j _ => by rw [up_n (by omega), up_n (by omega)])
        · rw [su_c (by omega), su_c (by omega), su_c (by omega), su_c (by omega), su_c (by omega), su_c (by omega), su_s, su_s]; exact LR.ag g5 (fun j _ => by rw [up_n (by omega), up_n (by omega)])
        · rw [su_c (by omega), su_c (by omega), su_s, up_n (by omega), su_s, up_n (by omega)]; exact g6.1
        · rw [su_s, up_n (by omega), su_s, up_n (by omega)]; exact g6.2.1
        · rw [su_s, up_n (by omega), su_s, up_n (by omega)] at hj
          rw [su_c (by omega), su_c (by omega), su_s, up_n (by omega), su_s, up_n (by omega)]; exact g6.2.2 j hj
        · rw [su_s, su_s, su_s, su_s]
          have q := g7 k hk
          show up (up (σ 30) n b) (n + 4) c k = up (up (τ 173) (725 + 2 * n) b) (725 + 2 * n + 1) c (725 + 2 * k) ∧ up (up (σ 30) n b) (n + 4) c (k + 4) = up (up (τ 173) (725 + 2 * n) b) (725 + 2 * n + 1) c (725 + 2 * k + 1)
          by_cases z : k = n
          · subst z
            rw [up_n (by omega), up_a, up_n (by omega), up_a, up_a, up_a]; exact ⟨rfl, rfl⟩
          · rw [up_n (by omega), up_n (by omega), up_n (by omega), up_n (by omega), up_n (by omega), up_n (by omega), up_n (by omega), up_n (by omega)]; exact q
      · rw [if_neg hc, i00, i00]; exact ⟨_, _, _, rfl, rfl, h0⟩
    · rw [if_neg hb, i00, i00]; exact ⟨_, _, _, rfl, rfl, h0⟩
  · rw [if_neg ha, i00, i00]; exact ⟨_, _, _, rfl, rfl, h0⟩
end Told
