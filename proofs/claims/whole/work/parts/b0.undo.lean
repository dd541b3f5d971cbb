/-! undo -/
section Undo
variable {σ τ : Sg}
theorem unM {d : Nat} (hd : d < 6) (h4 : τ 172 4 = d) : ∃ τ', Mo_undo_21_w 0 τ = some (1, τ') ∧ (∀ j, j < 548 → τ' 173 j = τ 175 (548 * d + j)) ∧ (∀ j, 548 ≤ j → τ' 173 j = τ 173 j) ∧ ∀ c, c ≠ 173 → τ' c = τ c := by
  have key : ∀ (m k : Nat) (τ1 : Sg), k + m = 548 → (∀ j, j < k → τ1 173 j = τ 175 (548 * d + j)) → (∀ j, 548 ≤ j → τ1 173 j = τ 173 j) → (∀ c, c ≠ 173 → τ1 c = τ c) → ∃ τ', Mo_undo_21_w (k : Int) τ1 = some (1, τ') ∧ (∀ j, j < 548 → τ' 173 j = τ 175 (548 * d + j)) ∧ (∀ j, 548 ≤ j → τ' 173 j = τ 173 j) ∧ ∀ c, c ≠ 173 → τ' c = τ c := by
    intro m
    induction m with
    | zero =>
      intro k τ1 hk h1 h2 h3
      refine ⟨τ1, wl_end ?_, fun j hj => h1 j (by omega), h2, h3⟩
      show Mo_undo_21_b (k : Int) τ1 = _
      unfold Mo_undo_21_b
      rw [if_neg (by omega)]
    | succ m ih =>
      intro k τ1 hk h1 h2 h3
      obtain ⟨τ', g1, g2⟩ := ih (k + 1) (su τ1 173 k (τ 175 (548 * d + k))) (by omega) (fun j hj => by
        rw [su_s]
        by_cases e : j = k
        · rw [e, up_a]
        · rw [up_n e]; exact h1 j (by omega)) (fun j hj => by rw [su_s, up_n (by omega)]; exact h2 j hj) (fun c hc => by rw [su_c hc, h3 c hc])
      refine ⟨τ', (wl_go ?_).trans g1, g2⟩
      show Mo_undo_21_b (k : Int) τ1 = _
      unfold Mo_undo_21_b
      rw [if_pos (by omega), h3 172 (by decide), h4, ix_q (by omega) (by omega), ix_q (by omega) (by omega), ll_q, wr_q (by omega) (by omega), ll_q, Int.toNat_natCast, show (548 * ((d : Nat) : Int) + (k : Int)).toNat = 548 * d + k by omega, h3 175 (by decide)]
      rfl
  exact key 548 0 τ (by omega) (fun j hj => (by omega)) (fun _ _ => rfl) (fun _ _ => rfl)
theorem p_undo (h : Inv σ τ) : Same2 (Td_undo σ) (Mo_undo τ) := by
  have h0 := h
  obtain ⟨⟨hT, hW, hM, hS, hB⟩, hP, hI, hR⟩ := h
  obtain ⟨g1, g2, g3, g4⟩ := hP
  obtain ⟨c, hc⟩ := Int.eq_ofNat_of_zero_le g2.1
  have hc : τ 172 4 = (c : Int) := hc
  unfold Td_undo Pa_goBack Mo_undo
  rw [g1, hc]
  by_cases z : c = 0
  · rw [if_pos (by omega), if_pos (by omega), b2_q]; exact ⟨_, _, _, rfl, rfl, h0⟩
  · rw [if_neg (by omega), if_neg (by omega), wr_q (by omega) (by omega), ll_q, ll_q]
    obtain ⟨k, hk⟩ : ∃ k : Nat, c = k + 1 := ⟨c - 1, by omega⟩
    subst hk
    rw [show (((k + 1 : Nat) : Int) - 1) = (k : Int) by omega]
    obtain ⟨q1, q2, q3, q4, q5⟩ := g4 k (by omega)
    obtain ⟨f, hf⟩ := Int.eq_ofNat_of_zero_le g3.1
    have hf : σ 61 1 = (f : Int) := hf
    have ep : pT σ k = 62 + 1 + 13 * ((f + k) % 6) := by unfold pT; rw [hf, Int.toNat_natCast]
    have e1 : su σ 61 2 (k : Int) 61 1 = (f : Int) := by rw [su_s, up_n (by decide)]; exact hf
    have e2 : su σ 61 2 (k : Int) 61 2 = (k : Int) := by rw [su_s, up_a]
    have em : Int.tmod ((f : Int) + (k : Int)) 6 = (((f + k) % 6 : Nat) : Int) := by rw [Int.tmod_eq_emod_of_nonneg (by omega)]; omega
    have eb : 63 ≤ pT σ k ∧ pT σ k + 13 ≤ 141 := by unfold pT; omega
    obtain ⟨n, hn⟩ := Int.eq_ofNat_of_zero_le q2.2.2.1.1
    have hn : (fun j => τ 175 (548 * k + j)) 3 = (n : Int) := hn
    have b60 := q2.2.2.1
    have ec1 : ∀ e, e ≠ 61 → su σ 61 2 (k : Int) e = σ e := fun e he => su_c he
    have hT1 : TR (pT σ k) (su σ 61 2 (k : Int)) (fun j => τ 175 (548 * k + j)) := TR.agr q1 q2.2.2.1 (fun e a b _ => ec1 e (by omega)) (fun _ _ _ => rfl)
    obtain ⟨σ', c1, c2, c3, c4, c5⟩ := copC (t := 2) (a := pT σ k) (σ := su σ 61 2 (k : Int)) (by omega) (n := n) (by omega) (hT1.2.2.1.trans hn)
    have hT2 := TR.cop (t := 2) hT1 hn c3 c4 c5
    obtain ⟨τ', u1, u2, u3, u4⟩ := unM (τ := su τ 172 4 (k : Int)) (d := k) (by omega) (by rw [su_s, up_a])
    have r173 : ∀ j, j < 548 → τ' 173 j = τ 175 (548 * k + j) := fun j hj => by rw [u2 j hj, su_c (by decide)]
    have o173 : ∀ j, 548 ≤ j → τ' 173 j = τ 173 j := fun j hj => by rw [u3 j hj, su_c (by decide)]
    have ag : agr 0 548 (fun j => τ 175 (548 * k + j)) (τ' 173) := fun j _ hj => r173 j hj
    have ec : ∀ e, (e < 2 ∨ 15 ≤ e) → e ≠ 61 → σ' e = σ e := fun e a b => by rw [c2 e (by omega), ec1 e b]
    have e175 : τ' 175 = τ 175 := by rw [u4 175 (by decide), su_c (by decide)]
    have e172 : ∀ j, j ≠ 4 → τ' 172 j = τ 172 j := fun j hj => by rw [u4 172 (by decide), su_s, up_n hj]
    refine ⟨1, σ', τ', ?_, u1, ⟨TR.agr hT2 q2.2.2.1 (fun _ _ _ _ => rfl) ag, WF.agr q2 ag, by rw [r173 0 (by decide)]; exact q3, ?_, ?_⟩, ?_, ?_, ?_⟩
    · rw [e1, e2, wr_q (by omega) (by omega), em, ix_q (by omega) (by omega), Int.toNat_natCast, ← ep, c1, b1_q, b2_q]
    · have hS5 : WS 1 (fun e => if e = 5 then σ 5 else σ' e) (τ' 173) := WS.agr hS (fun j a b => o173 j a) (fun j a b => o173 j (by omega)) (fun e he => by
        show (if e = 5 then σ 5 else σ' e) = σ e
        by_cases y : e = 5
        · rw [if_pos y, y]
        · rw [if_neg y]; exact ec e (by omega) (by omega)) (by
        show (if (1 : Nat) = 5 then σ 5 else σ' 1) 4 = σ 1 4
        rw [if_neg (by decide), ec 1 (by omega) (by omega)])
      refine ⟨fun j hj => ?_, hS5.2⟩
      have t1 := hS.1 j hj
      rw [o173 _ (by omega)]
      refine ⟨?_, t1.2⟩
      show σ' (2 + 3) j = _
      rw [c4 3 j (by decide) (by decide) hj, ec1 _ (by omega)]
      exact q5 j hj
    · intro j hj
      have q4' := q4.1
      rw [r173 2 (by decide)] at hj
      show σ' 15 j = _
      rw [ec 15 (by omega) (by omega), o173 _ (by omega)]
      exact hB j (by omega)
    · have p61 : ∀ x, pT σ' x = pT σ x := fun x => by unfold pT; rw [c2 61 (by omega), e1, hf]
      refine ⟨?_, ?_, ?_, fun x hx => ?_⟩
      · rw [c2 61 (by omega), e2, u4 172 (by decide), su_s, up_a]
      · rw [u4 172 (by decide), su_s, up_a]; omega
      · rw [c2 61 (by omega), e1, ← hf]; exact g3
      · rw [u4 172 (by decide), su_s, up_a] at hx
        obtain ⟨x1, x2, x3, x4, x5⟩ := g4 x (by omega)
        have eb' : 63 ≤ pT σ x ∧ pT σ x + 13 ≤ 141 := by unfold pT; omega
        rw [p61, e175, u4 172 (by decide), su_s, up_a]
        refine ⟨TR.agr x1 x2.2.2.1 (fun e a b _ => ec e (by omega) (by omega)) (fun _ _ _ => rfl), x2, x3, ⟨?_, fun x' a b => x4.2 x' a (by omega)⟩, fun j hj => ?_⟩
        · rw [r173 2 (by decide)]; exact x4.2 k (by omega) (by omega)
        · rw [ec _ (by omega) (by omega), o173 _ (by omega)]; exact x5 j hj
    · exact IM.agr hI (by rw [ec 0 (by omega) (by omega)]) (fun e a b => ec e (by omega) (by omega)) (e172 5 (by decide)) (by rw [u4 174 (by decide), su_c (by decide)])
    · exact RD.agr hR (by rw [ec 141 (by omega) (by omega)]) (by rw [ec 141 (by omega) (by omega)]) (by rw [ec 141 (by omega) (by omega)]) (ec 145 (by omega) (by omega)) (e172 16 (by decide)) (e172 23 (by decide)) (e172 25 (by decide)) (by rw [u4 180 (by decide), su_c (by decide)])
end Undo
