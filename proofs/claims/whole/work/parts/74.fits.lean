/-! fits -/
section Fits
variable {σ τ : Sg}
noncomputable def btF (τ : Sg) (b s : Int) : Int := (Mo_isBusOf s b τ).getD 0
theorem bus_q (h : Inv σ τ) {b s : Int} (hb : 10 ≤ b ∧ b ≤ 60) (hs : 0 ≤ s ∧ s ≤ 60) : Wo_busFits 1 b s σ = some (btF τ b s) ∧ Mo_isBusOf s b τ = some (btF τ b s) := by
  obtain ⟨⟨hT, hW, hM, hS, hB⟩, hP, hI, hR⟩ := h
  obtain ⟨g1, g2, g3, g4, g5, ⟨t1, t2, t3⟩, g7⟩ := hS
  have key := wl_two (B := fun p : Int => Wo_busFits_2_b σ 1 b s p) (B' := fun p : Int => Mo_isBusOf_2_b τ s b p) (fun p => (τ 173 554 - p).toNat) (fun p q => p = q ∧ 0 ≤ p ∧ p ≤ τ 173 554) (fun r r' => r = r') (by
    rintro k k' ⟨e, h1, h2⟩
    cases e
    unfold Wo_busFits_2_b Mo_isBusOf_2_b
    rw [t1]
    by_cases hk : k < τ 173 554
    · obtain ⟨i, rfl⟩ := Int.eq_ofNat_of_zero_le h1
      have t := t3 i hk
      have e1 : (715 + (i : Int)).toNat = 715 + i := by omega
      rw [if_pos hk, if_pos hk, if_pos (by omega), ix_q (by omega) (by omega), ix_q (by omega) (by omega), ix_q (by omega) (by omega), ll_q, Int.toNat_natCast, e1, t.1, wr_q (n := τ 173 (715 + i) - s) (by omega) (by omega), nzd_q (by omega)]
      by_cases h3 : τ 173 (715 + i) < s
      · left
        rw [if_pos (by omega), if_pos h3]; exact ⟨_, _, rfl, rfl, rfl⟩
      · rw [if_neg (by omega), if_neg h3]
        by_cases h4 : 1 < Int.tmod (τ 173 (715 + i) - s) b
        · left
          rw [if_pos h4]; exact ⟨_, _, rfl, rfl, rfl⟩
        · right
          rw [if_neg h4]
          simp only [ll_q]
          rw [wr_q (by omega) (by omega)]
          exact ⟨_, _, rfl, rfl, ⟨rfl, by omega, by omega⟩, by omega⟩
    · left
      rw [if_neg hk, if_neg hk]; exact ⟨_, _, rfl, rfl, rfl⟩) 0 0 ⟨rfl, by omega, by omega⟩
  obtain ⟨r, r', h1, h2, h3⟩ := key
  have e2 : Mo_isBusOf s b τ = some r' := h2
  have e1 : Wo_busFits 1 b s σ = some r := h1
  unfold btF
  rw [e1, e2, h3]
  exact ⟨rfl, rfl⟩
noncomputable def stF (τ : Sg) (b s : Int) (X : Int × Int × Int) : Int × Int × Int := if btF τ b s = 0 then X else (X.1 + 1, b, s)
noncomputable def fiF (τ : Sg) (b : Int) (X : Int × Int × Int) : Nat → Int × Int × Int
  | 0 => X
  | d + 1 => stF τ b (b - ((d : Int) + 1)) (fiF τ b X d)
noncomputable def foF (τ : Sg) : Nat → Int × Int × Int
  | 0 => (0, -1, -1)
  | e + 1 => fiF τ (10 + e) (foF τ e) (10 + e)
theorem stF_b (τ : Sg) (b s : Int) (X : Int × Int × Int) : X.1 ≤ (stF τ b s X).1 ∧ (stF τ b s X).1 ≤ X.1 + 1 := by
  unfold stF; split
  · omega
  · dsimp only; omega
theorem fiF_b (τ : Sg) (b : Int) (X : Int × Int × Int) : ∀ d : Nat, X.1 ≤ (fiF τ b X d).1 ∧ (fiF τ b X d).1 ≤ X.1 + d
  | 0 => by unfold fiF; omega
  | d + 1 => by
    have h1 := fiF_b τ b X d
    have h2 := stF_b τ b (b - ((d : Int) + 1)) (fiF τ b X d)
    unfold fiF; omega
theorem foF_b (τ : Sg) : ∀ e : Nat, e ≤ 51 → 0 ≤ (foF τ e).1 ∧ (foF τ e).1 ≤ 100 * e
  | 0, _ => by unfold foF; dsimp only; omega
  | e + 1, h => by
    have h1 := foF_b τ e (by omega)
    have h2 := fiF_b τ (10 + e) (foF τ e) (10 + e)
    unfold foF; omega
def pkF (a : Int) (X : Int × Int × Int) : Int := if a = 0 then X.1 else if a = 1 then X.2.1 else X.2.2
def cmF (X Y : Int × Int × Int) : Int × Int × Int := (X.1 + Y.1, if X.2.1 = -1 then Y.2.1 else X.2.1, if X.2.1 = -1 then Y.2.2 else X.2.2)
/-- the reference: a row, from its last start down -/
theorem fiM (h : Inv σ τ) {b : Int} (hb : 10 ≤ b ∧ b ≤ 60) (X : Int × Int × Int) (hX : 0 ≤ X.1 ∧ X.1 ≤ 5100) : ∀ (r d : Nat), (d : Int) + r = b → Mo_fits_35_w b τ (fiF τ b X d).1 (fiF τ b X d).2.1 (fiF τ b X d).2.2 (b - 1 - d) = some (.inl ((fiF τ b X b.toNat).1, (fiF τ b X b.toNat).2.1, (fiF τ b X b.toNat).2.2, b + 1))
  | 0, d, hd => by
    refine wl_end ?_
    show Mo_fits_35_b b τ _ _ _ (b - 1 - d) = _
    unfold Mo_fits_35_b
    rw [if_pos (by omega), ll_q, wr_q (by omega) (by omega), show b.toNat = d by omega]
  | r + 1, d, hd => by
    have ih := fiM h hb X hX r (d + 1) (by omega)
    have hbd := fiF_b τ b X d
    rw [← ih]
    refine wl_go ?_
    show Mo_fits_35_b b τ _ _ _ (b - 1 - d) = _
    unfold Mo_fits_35_b
    rw [if_neg (by omega), (bus_q h hb (by omega)).2, b1_q]
    have e1 : b - ((d : Int) + 1) = b - 1 - d := by omega
    have e2 : b - 1 - (d : Int) + -1 = b - 1 - ((d + 1 : Nat) : Int) := by omega
    conv => rhs; unfold fiF
    unfold stF
    rw [e1]
    by_cases hz : btF τ b (b - 1 - d) = 0
    · rw [if_pos hz, if_pos hz, ll_q, wr_q (by omega) (by omega), e2]
    · rw [if_neg hz, if_neg hz, ll_q, ll_q, wr_q (by omega) (by omega), wr_q (by omega) (by omega), e2]
theorem foM (h : Inv σ τ) (a : Int) : ∀ (r e : Nat), e + r = 51 → Mo_fits_22_w a τ (foF τ e).1 (foF τ e).2.1 (foF τ e).2.2 (10 + e) = some (pkF a (foF τ 51))
  | 0, e, he => by
    refine wl_end ?_
    show Mo_fits_22_b a τ _ _ _ (10 + e) = _
    unfold Mo_fits_22_b pkF
    rw [if_pos (by omega), show e = 51 by omega]
    by_cases h0 : a = 0
    · rw [if_pos h0, if_pos h0]
    · rw [if_neg h0, if_neg h0]
      by_cases h1 : a = 1
      · rw [if_pos h1, if_pos h1]
      · rw [if_neg h1, if_neg h1]
  | r + 1, e, he => by
    have ih := foM h a r (e + 1) (by omega)
    have hbd := foF_b τ e (by omega)
    rw [← ih]
    refine wl_go ?_
    show Mo_fits_22_b a τ _ _ _ (10 + e) = _
    unfold Mo_fits_22_b
    have k := fiM h (b := 10 + e) (by omega) (foF τ e) (by omega) (10 + e) 0 (by omega)
    rw [if_neg (by omega), ll_q, wr_q (by omega) (by omega)]
    rw [show (10 + (e : Int) - 1 - ((0 : Nat) : Int)) = 10 + (e : Int) - 1 by omega] at k
    rw [show fiF τ (10 + e) (foF τ e) 0 = foF τ e from rfl, show (10 + (e : Int)).toNat = 10 + e by omega] at k
    rw [k, show (10 + (e : Int) + 1) = 10 + ((e + 1 : Nat) : Int) by omega]
    rfl
theorem fiC (h : Inv σ τ) {b : Int} (hb : 10 ≤ b ∧ b ≤ 60) (Y : Int × Int × Int) : ∀ (d : Nat) (X : Int × Int × Int), (d : Int) ≤ b → 0 ≤ X.1 → X.1 + d ≤ 6000 → (X.2.1 = -1 → X.2.2 = -1) → ∃ X', Td_fits_32_w b σ X.1 X.2.1 X.2.2 (b - d) = some (.inl (X'.1, X'.2.1, X'.2.2, b - 1)) ∧ cmF X' Y = cmF X (fiF τ b Y d) ∧ 0 ≤ X'.1 ∧ X'.1 ≤ X.1 + d ∧ (X'.2.1 = -1 → X'.2.2 = -1)
  | 0, X, hd, h0, h1, hm => by
    refine ⟨X, wl_end ?_, rfl, h0, by omega, hm⟩
    show Td_fits_32_b b σ _ _ _ (b - ((0 : Nat) : Int)) = _
    unfold Td_fits_32_b
    rw [if_neg (by omega), ll_q, wr_q (by omega) (by omega), show b + -1 = b - 1 by omega]
  | d + 1, X, hd, h0, h1, hm => by
    have e2 : b - ((d + 1 : Nat) : Int) + 1 = b - (d : Int) := by omega
    have e3 : b - ((d : Int) + 1) = b - ((d + 1 : Nat) : Int) := by omega
    have bq := (bus_q h hb (s := b - ((d + 1 : Nat) : Int)) (by omega)).1
    by_cases hz : btF τ b (b - ((d + 1 : Nat) : Int)) = 0
    · obtain ⟨X', k1, k2, k3, k4, k5⟩ := fiC h hb Y d X (by omega) h0 (by omega) hm
      refine ⟨X', ?_, ?_, k3, by omega, k5⟩
      · rw [← k1]
        refine wl_go ?_
        show Td_fits_32_b b σ _ _ _ (b - ((d + 1 : Nat) : Int)) = _
        unfold Td_fits_32_b
        rw [if_pos (by omega), bq, b1_q, if_pos hz, ll_q, wr_q (by omega) (by omega), e2]
      · rw [k2]; unfold fiF stF; rw [e3, if_pos hz]; cases d <;> rfl
    · by_cases hl : X.2.1 = -1
      · obtain ⟨X', k1, k2, k3, k4, k5⟩ := fiC h hb Y d (X.1 + 1, b, b - ((d + 1 : Nat) : Int)) (by omega) (by dsimp only; omega) (by dsimp only; omega) (fun z => (by dsimp only at z; omega))
        refine ⟨X', ?_, ?_, k3, by dsimp only at k4; omega, k5⟩
        · rw [← k1]
          refine wl_go ?_
          show Td_fits_32_b b σ _ _ _ (b - ((d + 1 : Nat) : Int)) = _
          unfold Td_fits_32_b
          rw [if_pos (by omega), bq, b1_q, if_neg hz, ll_q, if_pos hl, ll_q, wr_q (by omega) (by omega), wr_q (by omega) (by omega), e2]
        · rw [k2]
          conv => rhs; unfold fiF
          unfold stF cmF; rw [e3, if_neg hz]
          dsimp only
          rw [if_neg (by omega), if_neg (by omega), if_pos hl, if_pos hl, show X.1 + 1 + (fiF τ b Y d).1 = X.1 + ((fiF τ b Y d).1 + 1) by omega]
      · obtain ⟨X', k1, k2, k3, k4, k5⟩ := fiC h hb Y d (X.1 + 1, X.2.1, X.2.2) (by omega) (by dsimp only; omega) (by dsimp only; omega) hm
        refine ⟨X', ?_, ?_, k3, by dsimp only at k4; omega, k5⟩
        · rw [← k1]
          refine wl_go ?_
          show Td_fits_32_b b σ _ _ _ (b - ((d + 1 : Nat) : Int)) = _
          unfold Td_fits_32_b
          rw [if_pos (by omega), bq, b1_q, if_neg hz, ll_q, if_neg hl, ll_q, wr_q (by omega) (by omega), wr_q (by omega) (by omega), e2]
        · rw [k2]
          conv => rhs; unfold fiF
          unfold stF cmF; rw [e3, if_neg hz]
          dsimp only
          rw [if_neg hl, if_neg hl, if_neg hl, if_neg hl, show X.1 + 1 + (fiF τ b Y d).1 = X.1 + ((fiF τ b Y d).1 + 1) by omega]
theorem foC (h : Inv σ τ) (a : Int) : ∀ (e : Nat) (X : Int × Int × Int), e ≤ 51 → 0 ≤ X.1 → X.1 + 100 * e ≤ 5900 → (X.2.1 = -1 → X.2.2 = -1) → Td_fits_22_w a σ X.1 X.2.1 X.2.2 (9 + e) = some (pkF a (cmF X (foF τ e)))
  | 0, X, he, h0, h1, h2 => by
    refine wl_end ?_
    show Td_fits_22_b a σ _ _ _ (9 + ((0 : Nat) : Int)) = _
    unfold Td_fits_22_b
    have k : cmF X (foF τ 0) = X := by
      unfold cmF foF
      dsimp only
      by_cases hl : X.2.1 = -1
      · rw [if_pos hl, if_pos hl, Int.add_zero]
        obtain ⟨x, y, z⟩ := X
        dsimp only at hl h2 ⊢
        rw [hl, h2 hl]
      · rw [if_neg hl, if_neg hl, Int.add_zero]
    rw [if_pos (by omega), k]
    unfold pkF
    by_cases h0 : a = 0
    · rw [if_pos h0, if_pos h0]
    · rw [if_neg h0, if_neg h0]
      by_cases h1 : a = 1
      · rw [if_pos h1, if_pos h1]
      · rw [if_neg h1, if_neg h1]
  | e + 1, X, he, h0, h1, h2 => by
    obtain ⟨X', k1, k2, k3, k4, k5⟩ := fiC h (b := 10 + e) (by omega) (foF τ e) (10 + e) X (by omega) h0 (by omega) h2
    have ih := foC h a e X' (by omega) k3 (by omega) k5
    rw [k2] at ih
    rw [show foF τ (e + 1) = fiF τ (10 + e) (foF τ e) (10 + e) from rfl, ← ih]
    refine wl_go ?_
    show Td_fits_22_b a σ _ _ _ (9 + ((e + 1 : Nat) : Int)) = _
    unfold Td_fits_22_b
    rw [if_neg (by omega), show (9 + ((e + 1 : Nat) : Int)) = 10 + (e : Int) by omega]
    rw [show (10 + (e : Int) - ((10 + e : Nat) : Int)) = 0 by omega, show (10 + (e : Int) - 1) = 9 + (e : Int) by omega] at k1
    rw [k1]
theorem p_fits (h : Inv σ τ) (a : Int) : Same1 (Td_fits a σ) (Mo_fits a τ) := by
  unfold Td_fits Mo_fits
  rw [within_q, isIn_q, b1_q, b1_q]
  by_cases hc : 0 ≤ a ∧ a ≤ 2
  · rw [if_pos hc, i10, i10]
    have k1 := foC h a 51 (0, -1, -1) (by omega) (by dsimp only; omega) (by dsimp only; omega) (fun _ => rfl)
    have k2 := foM h a 51 0 (by omega)
    have e1 : cmF (0, -1, -1) (foF τ 51) = foF τ 51 := by
      unfold cmF; dsimp only
      rw [if_pos rfl, if_pos rfl, Int.zero_add]
    rw [e1] at k1
    exact ⟨_, k1, k2⟩
  · rw [if_neg hc, i00, i00]; exact ⟨_, rfl, rfl⟩
end Fits
