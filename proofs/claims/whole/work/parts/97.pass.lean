/-! a minute, on both sides -/
def hrF (w : Nat → Int) : Int := Int.tmod (Int.tdiv (w 0) 60) 24
/-- the message can be read now -/
def canF (w : Nat → Int) (i : Nat) : Prop := (mW w i 2 = -1 ∧ mW w i 7 = 0) ∧ mW w i 1 < w 0 ∧ rdF w (1 - mW w i 0) (hrF w) ≠ 0
section Pass
variable {t : Nat} {th : Int} {σ τ : Sg}
theorem rd_ag {s c w w' : Nat → Int} (hH : HR s c w) {one hour : Int} (h : ∀ j, 548 ≤ j → j < 733 → w' j = w j) : rdF w' one hour = rdF w one hour := by
  unfold rdF; rw [act_ag hH h]
/-- the reference: a message that can't be read now -/
theorem rdN {s c : Nat → Int} (hH : HR s c (τ 173)) (hW : WF (τ 173)) (many : Int) {i : Nat} (hi : (i : Int) < τ 173 3) (hc : ¬ canF (τ 173) i) : Mo_aMinute_61_b many (i : Int) τ = some (.inl ((i : Int) + 1, τ)) := by
  have b60 := hW.2.2.1
  have hM := hW.2.2.2.2 i hi
  have iu := isUnread_q (τ := τ) (i := i) (by omega) hM.2.2.2.2.2.2.2.1
  unfold Mo_aMinute_61_b
  rw [if_pos hi, iu, b1_q, wr_q (by omega) (by omega)]
  by_cases z : mW (τ 173) i 2 = -1 ∧ mW (τ 173) i 7 = 0
  · rw [if_pos z, if_neg (by decide), of_1 (by omega), b1_q]
    by_cases z1 : mW (τ 173) i 1 < τ 173 0
    · rw [if_pos z1, goesTo_q (by omega) hM.1, b1_q]
      unfold Mo_hourNow
      rw [b1_q, readsM hH (hour_in hW.1.1), b1_q]
      have : rdF (τ 173) (1 - mW (τ 173) i 0) (Int.tmod (Int.tdiv (τ 173 0) 60) 24) = 0 := by
        by_cases y : rdF (τ 173) (1 - mW (τ 173) i 0) (Int.tmod (Int.tdiv (τ 173 0) 60) 24) = 0
        · exact y
        · exact absurd ⟨z, z1, y⟩ hc
      rw [this, i00, ll_q]
    · rw [if_neg z1, ll_q]
  · rw [if_neg z, i00, ll_q]
theorem rdS {s c : Nat → Int} (hH : HR s c (τ 173)) (hW : WF (τ 173)) (many : Int) {n : Nat} (hn : τ 173 3 = n) (hc : ∀ i : Nat, i < n → ¬ canF (τ 173) i) : ∀ m i : Nat, i + m = n → Mo_aMinute_61_w many (i : Int) τ = Mo_aMinute_61_w many (n : Int) τ
  | 0, i, hi => by rw [show i = n by omega]
  | m + 1, i, hi => by
    have ih := rdS hH hW many hn hc m (i + 1) (by omega)
    rw [← ih]
    exact wl_go (rdN hH hW many (by omega) (hc i (by omega)))
/-- one message, both sides; r, r' who can read -/
theorem CR.rm1 (h : CR t th σ τ) (many : Int) {i : Nat} (hi : (i : Int) < τ 173 3) (hz : ¬ (rdF (τ 173) 0 (hrF (τ 173)) = 0 ∧ rdF (τ 173) 1 (hrF (τ 173)) = 0)) : ∃ σ' τ', Co_readMessages_34_b (rdF (τ 173) 0 (hrF (τ 173))) (rdF (τ 173) 1 (hrF (τ 173))) (i : Int) σ = some (.inl ((i : Int) + 1, σ')) ∧ Mo_aMinute_61_b many (i : Int) τ = some (.inl ((i : Int) + 1, τ')) ∧ CR t th σ' τ' ∧ FR t σ σ' τ τ' ∧ τ' 173 0 = τ 173 0 ∧ τ' 173 3 = τ 173 3 := by
  have htk := h.tkk
  have b60 := h.WF.2.2.1
  have hM := h.WF.2.2.2.2 i hi
  have m0 := hM.1
  have io := isOpen_q h.TR hi b60.2
  have s0 := (TR.g h.TR hi).1
  have s1 := (TR.g h.TR hi).2.1
  have iu := isUnread_q (τ := τ) (i := i) (by omega) hM.2.2.2.2.2.2.2.1
  clear hM
  have t30 : (if rdF (τ 173) 0 (hrF (τ 173)) = 0 then if rdF (τ 173) 1 (hrF (τ 173)) = 0 then some 0 else some 1 else some 1) = some (1 : Int) := by
    by_cases a : rdF (τ 173) 0 (hrF (τ 173)) = 0
    · rw [if_pos a, if_neg (fun b => hz ⟨a, b⟩)]
    · rw [if_neg a]
  have t16 : (if mW (τ 173) i 0 = 1 then some (rdF (τ 173) 0 (hrF (τ 173))) else some (rdF (τ 173) 1 (hrF (τ 173)))) = some (rdF (τ 173) (1 - mW (τ 173) i 0) (hrF (τ 173))) := by
    rcases m0 with z | z
    · rw [z, if_neg (by decide)]; rfl
    · rw [z, if_pos rfl]; rfl
  have eC : ∀ X, Co_readMessages_34_b (rdF (τ 173) 0 (hrF (τ 173))) (rdF (τ 173) 1 (hrF (τ 173))) (i : Int) σ = X ↔ (if rdF (τ 173) (1 - mW (τ 173) i 0) (hrF (τ 173)) = 0 then some (.inl ((i : Int) + 1, σ)) else if mW (τ 173) i 2 = -1 ∧ mW (τ 173) i 7 = 0 then if mW (τ 173) i 1 < τ 173 0 then b1 (Co_readOne (i : Int) σ) fun σ27 => some (.inl ((i : Int) + 1, σ27)) else some (.inl ((i : Int) + 1, σ)) else some (.inl ((i : Int) + 1, σ))) = X := fun X => by
    unfold Co_readMessages_34_b
    rw [h.tn, isT_q htk, h.TR.2.2.1, if_pos hi, t30, b1_q, if_neg (by decide), isT_q htk, ix_q (by omega) (by omega), Int.toNat_natCast, s0, t16, b1_q, wr_q (by omega) (by omega)]
    by_cases z : rdF (τ 173) (1 - mW (τ 173) i 0) (hrF (τ 173)) = 0
    · rw [if_pos z, if_pos z, ll_q]
    · rw [if_neg z, if_neg z, isT_q htk, io, b1_q]
      by_cases y : mW (τ 173) i 2 = -1 ∧ mW (τ 173) i 7 = 0
      · rw [if_pos y, if_pos y, if_neg (by decide), isT_q htk, ix_q (by omega) (by omega), isT_q htk, s1, h.TR.1]
        by_cases x : mW (τ 173) i 1 < τ 173 0
        · rw [if_pos x, if_pos x]; rfl
        · rw [if_neg x, if_neg x, ll_q]
      · rw [if_neg y, if_neg y, i00, ll_q]
  by_cases hc : canF (τ 173) i
  · obtain ⟨c1, c2, c3⟩ := hc
    obtain ⟨σ', τ', d1, d2, d3, d4, d5, d6⟩ := h.rd1 hi c1.1 c1.2 c2
    refine ⟨σ', τ', (eC _).mpr ?_, ?_, d3, d4, d5, d6⟩
    · rw [if_neg c3, if_pos c1, if_pos c2, d1, b1_q]
    · unfold Mo_aMinute_61_b
      rw [if_pos hi, iu, b1_q, if_pos c1, if_neg (by decide), of_1 (by omega), b1_q, if_pos c2, goesTo_q (by omega) m0, b1_q]
      unfold Mo_hourNow
      rw [b1_q, readsM h.HR (hour_in h.WF.1.1), b1_q, if_neg (show ¬ rdF (τ 173) (1 - mW (τ 173) i 0) (Int.tmod (Int.tdiv (τ 173 0) 60) 24) = 0 from c3), d2, b1_q, wr_q (by omega) (by omega), ll_q]
  · refine ⟨σ, τ, (eC _).mpr ?_, rdN h.HR h.WF many hi hc, h, FR.refl, rfl, rfl⟩
    by_cases z : rdF (τ 173) (1 - mW (τ 173) i 0) (hrF (τ 173)) = 0
    · rw [if_pos z]
    · rw [if_neg z]
      by_cases y : mW (τ 173) i 2 = -1 ∧ mW (τ 173) i 7 = 0
      · rw [if_pos y, if_neg (fun x => hc ⟨y, x, z⟩)]
      · rw [if_neg y]
theorem CR.rms (many : Int) {n : Nat} {r r' : Int} (hz : ¬ (r = 0 ∧ r' = 0)) : ∀ (m i : Nat) (σ τ : Sg), i + m = n → τ 173 3 = n → CR t th σ τ → rdF (τ 173) 0 (hrF (τ 173)) = r → rdF (τ 173) 1 (hrF (τ 173)) = r' → ∃ σ' τ', Co_readMessages_34_w r r' (i : Int) σ = some σ' ∧ Mo_aMinute_61_w many (i : Int) τ = Mo_aMinute_61_w many (n : Int) τ' ∧ CR t th σ' τ' ∧ FR t σ σ' τ τ' ∧ τ' 173 0 = τ 173 0 ∧ τ' 173 3 = τ 173 3
  | 0, i, σ, τ, hi, hn, h, _, _ => by
    refine ⟨σ, τ, ?_, by rw [show i = n by omega], h, FR.refl, rfl, rfl⟩
    refine wl_end ?_
    show Co_readMessages_34_b r r' (i : Int) σ = _
    unfold Co_readMessages_34_b
    rw [h.tn, isT_q h.tkk, h.TR.2.2.1, hn, if_neg (by omega)]
  | m + 1, i, σ, τ, hi, hn, h, e0, e1 => by
    obtain ⟨σ1, τ1, a1, a2, a3, a4, a5, a6⟩ := h.rm1 many (i := i) (by omega) (by rw [e0, e1]; exact hz)
    rw [e0, e1] at a1
    have ag : ∀ j, 548 ≤ j → j < 733 → τ1 173 j = τ 173 j := fun j x y => a4.2.2.2.1 j x (.inl y)
    have eh : hrF (τ1 173) = hrF (τ 173) := by unfold hrF; rw [a5]
    obtain ⟨σ', τ', b1', b2', b3', b4', b5', b6'⟩ := CR.rms many (n := n) hz m (i + 1) σ1 τ1 (by omega) (by rw [a6]; exact hn) a3 (by rw [eh, rd_ag h.HR ag]; exact e0) (by rw [eh, rd_ag h.HR ag]; exact e1)
    refine ⟨σ', τ', ?_, ?_, b3', a4.trans b4', b5'.trans a5, b6'.trans a6⟩
    · rw [← b1']; exact wl_go a1
    · rw [← b2']; exact wl_go a2
/-- all are looked at -/
theorem CR.rda (h : CR t th σ τ) (many : Int) {n : Nat} (hn : τ 173 3 = n) : ∃ σ' τ', (if 0 < σ t 4 then b1 (Co_readMessages σ) fun σ5 => some σ5 else some σ) = some σ' ∧ Mo_aMinute_61_w many 0 τ = Mo_aMinute_61_w many (n : Int) τ' ∧ CR t th σ' τ' ∧ FR t σ σ' τ τ' ∧ τ' 173 0 = τ 173 0 ∧ τ' 173 3 = τ 173 3 := by
  have htk := h.tkk
  have b60 := h.WF.2.2.1
  have s4 : σ t 4 = opn (τ 173) n := by rw [h.TR.2.2.2.2.1, hn, Int.toNat_natCast]
  have b4 := opn_nn (w := τ 173) n
  have hh := hour_in h.WF.1.1
  by_cases z4 : 0 < σ t 4
  · rw [if_pos z4]
    have e : Co_readMessages σ = Co_readMessages_34_w (rdF (τ 173) 0 (hrF (τ 173))) (rdF (τ 173) 1 (hrF (τ 173))) 0 σ := by
      unfold Co_readMessages Ta_hour
      rw [h.tn, isT_q htk, b1_q, h.TR.1, readsC h.HR hh, b1_q, isT_q htk, b1_q, readsC h.HR hh, b1_q]
      rfl
    by_cases hz : rdF (τ 173) 0 (hrF (τ 173)) = 0 ∧ rdF (τ 173) 1 (hrF (τ 173)) = 0
    · refine ⟨σ, τ, ?_, rdS h.HR h.WF many hn (fun i hi hc => hc.2.2 ?_) n 0 (by omega), h, FR.refl, rfl, rfl⟩
      · have : Co_readMessages σ = some σ := by
          rw [e, hz.1, hz.2]
          refine wl_end ?_
          show Co_readMessages_34_b 0 0 0 σ = _
          unfold Co_readMessages_34_b
          rw [h.tn, isT_q htk]
          by_cases y : 0 < σ t 2
          · rw [if_pos y, i00, i00, b1_q, i00]
          · rw [if_neg y]
        rw [this, b1_q]
      · rcases (h.WF.2.2.2.2 i (by omega)).1 with y | y
        · rw [y]; exact hz.2
        · rw [y]; exact hz.1
    · obtain ⟨σ', τ', a1, a2, a3, a4, a5, a6⟩ := CR.rms many hz n 0 σ τ (by omega) hn h rfl rfl
      refine ⟨σ', τ', ?_, a2, a3, a4, a5, a6⟩
      rw [e, show Co_readMessages_34_w (rdF (τ 173) 0 (hrF (τ 173))) (rdF (τ 173) 1 (hrF (τ 173))) 0 σ = some σ' from a1, b1_q]
  · rw [if_neg z4]
    exact ⟨σ, τ, rfl, rdS h.HR h.WF many hn (fun i hi hc => opn_zero n (by omega) i hi hc.1) n 0 (by omega), h, FR.refl, rfl, rfl⟩
/-- the answers that are due -/
theorem CR.ans (many : Int) {n : Nat} (hn60 : n ≤ 60) : ∀ (m i : Nat) (σ τ : Sg), i + m = n → (n : Int) ≤ τ 173 3 → CR t th σ τ → (∀ k : Nat, (k < i ∨ n ≤ k) → (k : Int) < τ 173 3 → mW (τ 173) k 8 ≠ τ 173 0) → ∃ σ' τ', Co_answerMessages_10_w (n : Int) (i : Int) σ = some σ' ∧ Mo_aMinute_130_w (n : Int) many (i : Int) τ = Mo_aMinute_130_w (n : Int) many (n : Int) τ' ∧ CR t th σ' τ' ∧ FR t σ σ' τ τ' ∧ τ' 173 0 = τ 173 0 ∧ ∀ k : Nat, (k : Int) < τ' 173 3 → mW (τ' 173) k 8 ≠ τ 173 0
  | 0, i, σ, τ, hi, hn, h, hd => by
    refine ⟨σ, τ, ?_, by rw [show i = n by omega], h, FR.refl, rfl, fun k hk => hd k (by omega) hk⟩
    refine wl_end ?_
    show Co_answerMessages_10_b (n : Int) (i : Int) σ = _
    unfold Co_answerMessages_10_b
    rw [if_neg (by omega)]
  | m + 1, i, σ, τ, hi, hn, h, hd => by
    have htk := h.tkk
    have htt := h.tt
    have b60 := h.WF.2.2.1
    have b0 := h.WF.1
    have hi3 : (i : Int) < τ 173 3 := by omega
    have s8 := (TR.g h.TR hi3).2.2.2.2.2.2.2.2
    have s5 : σ t 5 = awt (τ 173) (τ 173 3).toNat := h.TR.2.2.2.2.2.1
    have b5 := awt_nn (w := τ 173) (τ 173 3).toNat
    by_cases e : mW (τ 173) i 8 = τ 173 0
    · obtain ⟨σ1, τ1, a1, a2, a3, a4, a5, a6, a7, a8, a9⟩ := h.an1 hi3 e
      obtain ⟨σ', τ', b1', b2', b3', b4', b5', b6'⟩ := CR.ans many hn60 m (i + 1) σ1 τ1 (by omega) (by omega) a3 (fun k hk hk3 => by
        rw [a5]
        by_cases ek : k = i
        · rw [ek, a7]; omega
        · rcases Nat.lt_or_ge k (τ 173 3).toNat with y | y
          · rw [a8 k ek (by omega)]
            exact hd k (by omega) (by omega)
          · rw [a9 k (by omega) hk3]; omega)
      rw [a5] at b6'
      refine ⟨σ', τ', ?_, ?_, b3', a4.trans b4', b5'.trans a5, b6'⟩
      · rw [← b1']
        refine wl_go ?_
        show Co_answerMessages_10_b (n : Int) (i : Int) σ = _
        unfold Co_answerMessages_10_b
        rw [if_pos (by omega), h.tn, isT_q htk, ix_q (by omega) (by omega), isT_q htk, Int.toNat_natCast, s8, h.TR.1, if_pos e, isT_q htk, ix_q (by omega) (by omega), ll_q, show su σ (t + 12) i (-1) 152 = σ 152 from su_c (by omega), h.tn, isT_q htk, show su σ (t + 12) i (-1) t 5 = σ t 5 by rw [su_c (by omega)], wr_q (by omega) (by omega), ll_q, a1, b1_q, wr_q (by omega) (by omega), ll_q]
        rfl
      · rw [← b2']
        refine wl_go ?_
        show Mo_aMinute_130_b (n : Int) many (i : Int) τ = _
        unfold Mo_aMinute_130_b
        rw [if_pos (by omega), of_8 (by omega), b1_q, if_pos e, a2, b1_q, wr_q (by omega) (by omega), ll_q]
        rfl
    · obtain ⟨σ', τ', b1', b2', b3', b4', b5', b6'⟩ := CR.ans many hn60 m (i + 1) σ τ (by omega) hn h (fun k hk hk3 => by
        by_cases ek : k = i
        · rw [ek]; exact e
        · exact hd k (by omega) hk3)
      refine ⟨σ', τ', ?_, ?_, b3', b4', b5', b6'⟩
      · rw [← b1']
        refine wl_go ?_
        show Co_answerMessages_10_b (n : Int) (i : Int) σ = _
        unfold Co_answerMessages_10_b
        rw [if_pos (by omega), h.tn, isT_q htk, ix_q (by omega) (by omega), isT_q htk, Int.toNat_natCast, s8, h.TR.1, if_neg e, wr_q (by omega) (by omega), ll_q]
        rfl
      · rw [← b2']
        refine wl_go ?_
        show Mo_aMinute_130_b (n : Int) many (i : Int) τ = _
        unfold Mo_aMinute_130_b
        rw [if_pos (by omega), of_8 (by omega), b1_q, if_neg e, wr_q (by omega) (by omega), ll_q]
        rfl
/-- the reference: nothing is due -/
theorem anS (hW : WF (τ 173)) (many : Int) {n : Nat} (hn : τ 173 3 = n) (hd : ∀ k : Nat, k < n → mW (τ 173) k 8 ≠ τ 173 0) : ∀ m i : Nat, i + m = n → Mo_aMinute_130_w (n : Int) many (i : Int) τ = Mo_aMinute_130_w (n : Int) many (n : Int) τ
  | 0, i, hi => by rw [show i = n by omega]
  | m + 1, i, hi => by
    have b60 := hW.2.2.1
    rw [← anS hW many hn hd m (i + 1) (by omega)]
    refine wl_go ?_
    show Mo_aMinute_130_b (n : Int) many (i : Int) τ = _
    unfold Mo_aMinute_130_b
    rw [if_pos (by omega), of_8 (by omega), b1_q, if_neg (hd i (by omega)), wr_q (by omega) (by omega), ll_q]
    rfl
theorem CR.ana (h : CR t th σ τ) (many : Int) {n : Nat} (hn : τ 173 3 = n) : ∃ σ' τ', (if 0 < σ t 5 then b1 (Co_answerMessages σ) fun σ5 => some σ5 else some σ) = some σ' ∧ Mo_aMinute_130_w (n : Int) many 0 τ = Mo_aMinute_130_w (n : Int) many (n : Int) τ' ∧ CR t th σ' τ' ∧ FR t σ σ' τ τ' ∧ τ' 173 0 = τ 173 0 ∧ ∀ k : Nat, (k : Int) < τ' 173 3 → mW (τ' 173) k 8 ≠ τ 173 0 := by
  have htk := h.tkk
  have b60 := h.WF.2.2.1
  have b0 := h.WF.1
  have s5 : σ t 5 = awt (τ 173) n := by rw [h.TR.2.2.2.2.2.1, hn, Int.toNat_natCast]
  have b5 := awt_nn (w := τ 173) n
  by_cases z : 0 < σ t 5
  · rw [if_pos z]
    obtain ⟨σ', τ', a1, a2, a3, a4, a5, a6⟩ := CR.ans many (n := n) (by omega) n 0 σ τ (by omega) (by omega) h (fun k hk hk3 => by omega)
    refine ⟨σ', τ', ?_, a2, a3, a4, a5, a6⟩
    unfold Co_answerMessages
    rw [h.tn, isT_q htk, h.TR.2.2.1, hn, ll_q, show Co_answerMessages_10_w (n : Int) 0 σ = some σ' from a1, b1_q]
  · rw [if_neg z]
    have hd : ∀ k : Nat, k < n → mW (τ 173) k 8 ≠ τ 173 0 := fun k hk => by rw [awt_zero n (by omega) k hk]; omega
    exact ⟨σ, τ, rfl, anS h.WF many hn hd n 0 (by omega), h, FR.refl, rfl, fun k hk => hd k (by omega)⟩
end Pass
