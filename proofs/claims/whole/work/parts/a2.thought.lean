/-! in thought -/
def TH (σ τ : Sg) : Prop := ∃ τ0, Inv σ τ0 ∧ (∀ j, j < 548 → τ 176 j = τ0 173 j) ∧ (∀ j, 548 ≤ j → τ 173 j = τ0 173 j) ∧ (∀ c, c = 174 ∨ c = 175 ∨ c = 180 → τ c = τ0 c) ∧ ∀ j, j = 4 ∨ j = 5 ∨ j = 16 ∨ j = 23 ∨ j = 25 → τ 172 j = τ0 172 j
def IvE (a b : Nat → Int) (τ : Sg) : Prop := τ 172 = a ∧ τ 175 = b
section Thought
variable {σ σ' τ τ' : Sg}
theorem okE (a b : Nat → Int) : okK some (IvE a b) := ⟨fun τ h => ⟨τ, rfl, rfl, rfl, fun _ _ _ _ => rfl, fun _ _ _ => rfl, h⟩, fun τ τ' h1 h2 h => ⟨h1.trans h.1, h2.trans h.2⟩⟩
theorem imC (h : Inv σ τ) (h26 : τ 172 26 = 0) (h27 : τ 172 27 = -1) : ∃ σ', Td_imagine σ = some σ' ∧ CR 153 1 σ' τ ∧ ∀ c, (c < 152 ∨ 166 ≤ c) → σ' c = σ c := by
  obtain ⟨hT, hW, hM9, hS, hB⟩ := h.1
  have hT : TR 2 σ (τ 173) := hT
  obtain ⟨n, hn⟩ := Int.eq_ofNat_of_zero_le hW.2.2.1.1
  have hn : τ 173 3 = (n : Int) := hn
  have b60 := hW.2.2.1
  obtain ⟨σ1, c1, c2, c3, c4, c5⟩ := copC (t := 153) (a := 2) (σ := σ) (by omega) (n := n) (by omega) (hT.2.2.1.trans hn)
  have hT1 := TR.cop (t := 153) hT hn c3 c4 c5
  have ec : ∀ c, c ≠ 152 → su (su (su σ1 152 2 153) 152 3 1) 152 4 (-1) c = σ1 c := fun c hc => by rw [su_c hc, su_c hc, su_c hc]
  refine ⟨su (su (su σ1 152 2 153) 152 3 1) 152 4 (-1), ?_, ⟨.inr ⟨rfl, rfl⟩, ⟨?_, ?_, by omega, ?_, .inl h27⟩, ?_, hW, ?_, ?_, fun z => by omega⟩, fun c hc => by rw [ec c (by omega), c2 c (by omega)]⟩
  · unfold Td_imagine Co_begin
    rw [c1, b1_q, ll_q, zb_q1, ll_q, ll_q, b1_q]
    rfl
  · rw [su_s, up_n (by decide), su_s, up_n (by decide), su_s, up_a]; rfl
  · rw [su_s, up_n (by decide), su_s, up_a]
  · rw [su_s, up_a, h27]
  · exact TR.agr hT1 hW.2.2.1 (fun k a b _ => ec k (by omega)) (fun _ _ _ => rfl)
  · intro j hj
    rw [ec _ (by decide), c4 3 j (by decide) (by decide) hj]
    exact (hS.1 j hj).1
  · exact WS.agr hS (fun _ _ _ => rfl) (fun _ _ _ => rfl) (fun k hk => by rw [ec k (by omega), c2 k (by omega)]) (by rw [ec 1 (by decide), c2 1 (by omega)])
theorem thIm (h : Inv σ τ) : ∃ σ' τ', Td_imagine σ = some σ' ∧ Mo_laysAside τ = some τ' ∧ CR 153 1 σ' τ' ∧ TH σ' τ' ∧ τ' 173 = τ 173 := by
  obtain ⟨τ', a1, a2, a3, a4, a5, a6⟩ := asM (τ := τ)
  have hI : Inv σ τ' := h.scr (fun _ _ => rfl) rfl rfl rfl (fun c hc => a3 c (by omega) (by omega)) (fun j hj => a6 j (by omega) (by omega))
  obtain ⟨σ', c1, c2, c3⟩ := imC hI a4 a5
  refine ⟨σ', τ', c1, a1, c2, ⟨τ, ?_, a2, fun j _ => by rw [a3 173 (by decide) (by decide)], fun c hc => a3 c (by omega) (by omega), fun j hj => a6 j (by omega) (by omega)⟩, a3 173 (by decide) (by decide)⟩
  exact h.scr (fun c hc => c3 c (by omega)) (by rw [c3 141 (by omega)]) (by rw [c3 141 (by omega)]) (by rw [c3 141 (by omega)]) (fun _ _ => rfl) (fun _ _ => rfl)
theorem thSt (h : TH σ τ) (hF : FX 153 σ σ' τ τ') (h4 : τ' 172 4 = τ 172 4) (h5 : τ' 175 = τ 175) : TH σ' τ' := by
  obtain ⟨τ0, g1, g2, g3, g4, g5⟩ := h
  obtain ⟨f1, f2, f3, f4, f5, f6, f7⟩ := hF
  have ec : ∀ c, c < 141 ∨ c = 145 → σ' c = σ c := fun c hc => by
    by_cases e : c = 15
    · rw [e]; exact f2 rfl
    · exact f1 c (by omega) e (by omega) (by omega) (by omega)
  have e141 : σ' 141 = σ 141 := f1 141 (by omega) (by omega) (by omega) (by omega) (by omega)
  refine ⟨τ0, g1.scr ec (by rw [e141]) (by rw [e141]) (by rw [e141]) (fun _ _ => rfl) (fun _ _ => rfl), fun j hj => ?_, fun j hj => ?_, fun c hc => ?_, fun j hj => ?_⟩
  · rw [f3 176 (by decide) (by decide) (by decide) (by decide) (by decide)]; exact g2 j hj
  · rw [← g3 j hj]
    by_cases e : j < 733 ∨ 1333 ≤ j
    · exact f4 j hj e
    · exact f6 rfl j (by omega) (by omega)
  · rw [← g4 c hc]
    by_cases e : c = 175
    · rw [e]; exact h5
    · exact f3 c (by omega) (by omega) e (by omega) (by omega)
  · rw [← g5 j hj]
    by_cases e : j = 4
    · rw [e]; exact h4
    · exact f7 j e (by omega) (by omega)
theorem thBk (h : TH σ τ) : ∃ τ', Mo_putsBack τ = some τ' ∧ Inv σ τ' ∧ (∀ c, c ≠ 173 → τ' c = τ c) ∧ ∀ j, j < 548 → τ' 173 j = τ 176 j := by
  obtain ⟨τ0, g1, g2, g3, g4, g5⟩ := h
  obtain ⟨τ', b1', b2', b3', b4'⟩ := pbM (τ := τ)
  have e173 : τ' 173 = τ0 173 := by
    funext j
    rcases Nat.lt_or_ge j 548 with z | z
    · rw [b2' j z, g2 j z]
    · rw [b3' j z, g3 j z]
  refine ⟨τ', b1', g1.scr (fun _ _ => rfl) rfl rfl rfl (fun c hc => ?_) (fun j hj => by rw [b4' 172 (by decide)]; exact g5 j hj), b4', b2'⟩
  by_cases e : c = 173
  · rw [e]; exact e173
  · rw [b4' c e]; exact g4 c (by omega)
/-- a loop of minutes alone -/
theorem mnL {β : Type} {B : Int × Sg → Option ((Int × Sg) ⊕ β)} {n : Nat} (hn : n ≤ 1000) (hB : ∀ (k : Nat) (τ : Sg), k < n → B ((k : Int), τ) = b2 (Mo_aMinute τ) fun _ τ2 => ll (wr ((k : Int) + 1)) fun k2 => some (.inl (k2, τ2))) : ∀ (m k : Nat) (acc : Int) (τ : Sg) (x : Int) (τ' : Sg), k + m = n → mnK some m acc τ = some (x, τ') → wl B ((k : Int), τ) = wl B ((n : Int), τ')
  | 0, k, acc, τ, x, τ', hk, h => by
    unfold mnK at h
    cases h
    rw [show k = n by omega]
  | m + 1, k, acc, τ, x, τ', hk, h => by
    rw [mnK_s, b1_q] at h
    cases hm : Mo_aMinute τ with
    | none => rw [hm] at h; cases h
    | some p =>
      obtain ⟨r, τ2⟩ := p
      rw [hm, b2_q] at h
      rw [← mnL hn hB m (k + 1) _ τ2 x τ' (by omega) h]
      refine wl_go ?_
      rw [hB k τ (by omega), hm, b2_q, wr_q (by omega) (by omega), ll_q]
      rfl
def lsF (w : Nat → Int) : Nat → Int
  | 0 => -1
  | n + 1 => if mW w n 7 = 0 then mW w n 0 else lsF w n
theorem lsC {t : Nat} (hT : TR t σ (τ 173)) (hW : WF (τ 173)) : ∀ n : Nat, (n : Int) ≤ τ 173 3 → Ta_whoseIsLast_7_w σ t ((n : Int) - 1) = some (lsF (τ 173) n)
  | 0, _ => by
    refine wl_end ?_
    show Ta_whoseIsLast_7_b σ t _ = _
    unfold Ta_whoseIsLast_7_b
    rw [if_pos (by omega)]; rfl
  | n + 1, hn => by
    have b60 := hW.2.2.1
    have hi : (n : Int) < τ 173 3 := by omega
    have s0 := (TR.g hT hi).1
    have s7 := (TR.g hT hi).2.2.2.2.2.2.2.1
    have ih := lsC hT hW n (by omega)
    rw [show (((n + 1 : Nat) : Int) - 1) = (n : Int) by omega]
    unfold lsF
    by_cases z : mW (τ 173) n 7 = 0
    · rw [if_pos z]
      refine wl_end ?_
      show Ta_whoseIsLast_7_b σ t (n : Int) = _
      unfold Ta_whoseIsLast_7_b
      rw [if_neg (by omega), ix_q (by omega) (by omega), Int.toNat_natCast, s7, if_pos z, ix_q (by omega) (by omega), s0]
    · rw [if_neg z, ← ih]
      refine wl_go ?_
      show Ta_whoseIsLast_7_b σ t (n : Int) = _
      unfold Ta_whoseIsLast_7_b
      rw [if_neg (by omega), ix_q (by omega) (by omega), Int.toNat_natCast, s7, if_neg z, wr_q (by omega) (by omega), ll_q]
      rfl
theorem lsM (hW : WF (τ 173)) {n : Nat} (hn : τ 173 3 = n) : ∀ m k : Nat, k + m = n → Mo_lastFrom_4_w τ (lsF (τ 173) k) (k : Int) = some (lsF (τ 173) n)
  | 0, k, hk => by
    rw [show k = n by omega]
    refine wl_end ?_
    show Mo_lastFrom_4_b τ (lsF (τ 173) n) (n : Int) = _
    unfold Mo_lastFrom_4_b
    rw [hn, if_neg (by omega)]
  | m + 1, k, hk => by
    have b60 := hW.2.2.1
    have m7 := (hW.2.2.2.2 k (by omega)).2.2.2.2.2.2.2.1
    rw [← lsM hW hn m (k + 1) (by omega)]
    refine wl_go ?_
    show Mo_lastFrom_4_b τ (lsF (τ 173) k) (k : Int) = _
    unfold Mo_lastFrom_4_b
    rw [hn, if_pos (by omega), isBack_q (by omega) m7, b1_q]
    rw [show lsF (τ 173) (k + 1) = if mW (τ 173) k 7 = 0 then mW (τ 173) k 0 else lsF (τ 173) k from rfl]
    by_cases z : mW (τ 173) k 7 = 0
    · rw [if_pos z, if_pos z, of_0 (by omega), b1_q, wr_q (by omega) (by omega), ll_q]
      rfl
    · rw [if_neg z, if_neg z, wr_q (by omega) (by omega), ll_q]
      rfl
theorem p_goes (h : Inv σ τ) (a b : Int) : Same2 (Td_goes a b σ) (Mo_goes a b τ) := by
  unfold Td_goes Mo_goes
  rw [within_q, isIn_q, b1_q, b1_q]
  by_cases ha : 1 ≤ a ∧ a ≤ 999
  · rw [if_pos ha, i10, i10, within_q, isIn_q, b1_q, b1_q]
    by_cases hb : 0 ≤ b ∧ b ≤ 3
    · rw [if_pos hb, i10, i10]
      obtain ⟨σ1, τ1, i1, i2, C1, T1, e173⟩ := thIm h
      obtain ⟨n, hn⟩ := Int.eq_ofNat_of_zero_le (show 0 ≤ a by omega)
      have hn : a = (n : Int) := hn
      subst hn
      have w0 := h.1.2.2.1
      obtain ⟨σ2, τ2, g1, g2, C2, F2, I2, g6⟩ := C1.go (okE (τ1 172) (τ1 175)) ⟨rfl, rfl⟩ (n := n) (by omega) (by rw [e173]; omega) 0
      have T2 := thSt T1 F2 (by rw [I2.1]) I2.2
      obtain ⟨τ3, p1, p2, -, -⟩ := thBk T2
      have loop : Mo_goes_29_w (n : Int) b 0 τ1 = Mo_goes_29_w (n : Int) b (n : Int) τ2 := mnL (B := fun p => Mo_goes_29_b (n : Int) b p.1 p.2) (n := n) (by omega) (fun k τ hk => by
        show Mo_goes_29_b (n : Int) b (k : Int) τ = _
        unfold Mo_goes_29_b
        rw [if_pos (by omega)]) n 0 0 τ1 _ τ2 (by omega) g2
      rw [i1, i2, b1_q, b1_q, g1, b1_q, loop]
      have b60 := C2.WF.2.2.1
      obtain ⟨m, hm⟩ := Int.eq_ofNat_of_zero_le b60.1
      have hm : τ2 173 3 = (m : Int) := hm
      have eM : ∀ r, (if b = 0 then some (τ2 173 3) else if b = 1 then Mo_lastFrom τ2 else some (τ2 173 ((4 + b) - 2).toNat)) = some r → Mo_goes_29_w (n : Int) b (n : Int) τ2 = some (r, τ3) := fun r hr => by
        refine wl_end ?_
        show Mo_goes_29_b (n : Int) b (n : Int) τ2 = _
        unfold Mo_goes_29_b
        rw [if_neg (by omega)]
        by_cases b0 : b = 0
        · rw [if_pos b0] at hr ⊢
          cases hr
          rw [ll_q, p1, b1_q]
        · rw [if_neg b0] at hr ⊢
          by_cases b1' : b = 1
          · rw [if_pos b1'] at hr ⊢
            rw [hr, b1_q, p1, b1_q]
          · rw [if_neg b1'] at hr ⊢
            cases hr
            rw [ix_q (by omega) (by omega), ll_q, p1, b1_q]
      by_cases b0 : b = 0
      · rw [if_pos b0]
        refine ⟨_, _, _, rfl, eM _ ?_, p2⟩
        rw [if_pos b0, C2.TR.2.2.1]
      · rw [if_neg b0]
        by_cases b1' : b = 1
        · rw [if_pos b1']
          have l1 : Ta_whoseIsLast 153 σ2 = some (lsF (τ2 173) m) := by
            unfold Ta_whoseIsLast
            rw [C2.TR.2.2.1, hm, wr_q (by omega) (by omega), ll_q, lsC C2.TR C2.WF m (by omega)]
          have l2 : Mo_lastFrom τ2 = some (lsF (τ2 173) m) := lsM C2.WF hm m 0 (by omega)
          rw [l1, b1_q]
          refine ⟨_, _, _, rfl, eM _ ?_, p2⟩
          rw [if_neg b0, if_pos b1', l2]
        · rw [if_neg b1', ix_q (by omega) (by omega)]
          refine ⟨_, _, _, rfl, eM _ ?_, p2⟩
          rw [if_neg b0, if_neg b1', show ((4 + b) - 2).toNat = 4 + (b - 2).toNat by omega]
          exact congrArg some (C2.TR.2.2.2.2.2.2.1 (b - 2).toNat (by omega)).1.symm
    · rw [if_neg hb, i00, i00]; exact ⟨_, _, _, rfl, rfl, h⟩
  · rw [if_neg ha, i00, i00]; exact ⟨_, _, _, rfl, rfl, h⟩
end Thought
