/-! a course: the talk from t on, true (th 0) or in thought (th 1), beside the reference's row -/
def CR (t : Nat) (th : Int) (σ τ : Sg) : Prop :=
  ((t = 2 ∧ th = 0) ∨ (t = 153 ∧ th = 1)) ∧
  (σ 152 2 = t ∧ σ 152 3 = th ∧ τ 172 26 = 1 - th ∧ σ 152 4 = τ 172 27 ∧ (τ 172 27 = -1 ∨ (σ 152 5 = τ 172 28 ∧ 1 ≤ τ 172 28 ∧ τ 172 28 ≤ 999))) ∧
  TR t σ (τ 173) ∧ WF (τ 173) ∧ (∀ j, j < 2 → σ (t + 3) j = τ 173 (548 + j)) ∧ WS 1 σ (τ 173) ∧ (th = 0 → BK (σ 15) (τ 173))
/-- what a course leaves alone -/
def FR (t : Nat) (σ σ' τ τ' : Sg) : Prop :=
  (∀ c, (c < t ∨ t + 13 ≤ c ∨ c = t + 3) → c ≠ 15 → c ≠ 149 → c ≠ 150 → c ≠ 151 → σ' c = σ c) ∧ (t = 153 → σ' 15 = σ 15) ∧
  (∀ c, c ≠ 173 → c ≠ 181 → c ≠ 182 → τ' c = τ c) ∧ (∀ j, 548 ≤ j → (j < 733 ∨ 1333 ≤ j) → τ' 173 j = τ 173 j) ∧ τ 173 2 ≤ τ' 173 2 ∧ (t = 153 → ∀ j, 733 ≤ j → j < 1333 → τ' 173 j = τ 173 j)
section Course
variable {t : Nat} {th : Int} {σ σ' σ'' τ τ' τ'' : Sg}
theorem FR.refl : FR t σ σ τ τ := ⟨fun _ _ _ _ _ _ => rfl, fun _ => rfl, fun _ _ _ _ => rfl, fun _ _ _ => rfl, Int.le_refl _, fun _ _ _ _ => rfl⟩
theorem FR.trans (h : FR t σ σ' τ τ') (h' : FR t σ' σ'' τ' τ'') : FR t σ σ'' τ τ'' :=
  ⟨fun c a b d e f => (h'.1 c a b d e f).trans (h.1 c a b d e f), fun a => (h'.2.1 a).trans (h.2.1 a), fun c a b d => (h'.2.2.1 c a b d).trans (h.2.2.1 c a b d), fun j a b => (h'.2.2.2.1 j a b).trans (h.2.2.2.1 j a b), Int.le_trans h.2.2.2.2.1 h'.2.2.2.2.1, fun a j b c => (h'.2.2.2.2.2 a j b c).trans (h.2.2.2.2.2 a j b c)⟩
theorem isT_q {α : Type} {o : Option α} (h : tk t = true) : isT t o = o := if_pos h
theorem CR.tt (h : CR t th σ τ) : t = 2 ∨ t = 153 := h.1.imp (·.1) (·.1)
theorem CR.tkk (h : CR t th σ τ) : tk t = true := by rcases h.tt with e | e <;> subst e <;> rfl
theorem CR.tn (h : CR t th σ τ) : (σ 152 2).toNat = t := by rw [h.2.1.1, Int.toNat_natCast]
theorem CR.hh (h : CR t th σ τ) : th = 0 ∨ th = 1 := h.1.imp (·.2) (·.2)
/-- a step of the talk alone: new cells of the talk, a new row below 548 -/
theorem CR.talk (h : CR t th σ τ) {w' : Nat → Int} (hT : TR t σ' w') (hW : WF w') (hτ : τ' 173 = w') (ho : ∀ c, c ≠ 173 → τ' c = τ c) (hw : ∀ j, 548 ≤ j → w' j = τ 173 j) (h2 : w' 2 = τ 173 2) (hc : ∀ c, (c < t ∨ t + 13 ≤ c ∨ c = t + 3) → σ' c = σ c) : CR t th σ' τ' ∧ FR t σ σ' τ τ' := by
  obtain ⟨c1, c2, c3, c4, c5, c6, c7⟩ := h
  have e152 : σ' 152 = σ 152 := hc 152 (by rcases c1 with ⟨e, -⟩ | ⟨e, -⟩ <;> omega)
  have e172 : τ' 172 = τ 172 := ho 172 (by decide)
  have e15 : σ' 15 = σ 15 := hc 15 (by rcases c1 with ⟨e, -⟩ | ⟨e, -⟩ <;> omega)
  refine ⟨⟨c1, by rw [e152, e172]; exact c2, by rw [hτ]; exact hT, by rw [hτ]; exact hW, fun j hj => ?_, ?_, fun e => ?_⟩, fun c a _ _ _ _ => hc c a, fun _ => e15, fun c a _ _ => ho c a, fun j a _ => by rw [hτ]; exact hw j a, by rw [hτ, h2]; exact Int.le_refl _, fun _ j a _ => by rw [hτ]; exact hw j (by omega)⟩
  · rw [hc _ (.inr (.inr rfl)), hτ, hw _ (by omega)]; exact c5 j hj
  · rw [hτ]
    refine WS.agr c6 (fun j a _ => hw j a) (fun j a _ => hw j (by omega)) (fun k hk => ?_) ?_
    · refine hc k ?_
      rcases c1 with ⟨e, -⟩ | ⟨e, -⟩ <;> omega
    · rw [hc 1 (by rcases c1 with ⟨e, -⟩ | ⟨e, -⟩ <;> omega)]
  · rw [e15, hτ]
    exact BK.agr (c7 e) c4.2.1 rfl h2 (fun j a _ => hw j (by omega))
/-- what is scratch to it -/
theorem CR.scr (h : CR t th σ τ) (hc : ∀ c, c ≠ 149 → c ≠ 150 → c ≠ 151 → σ' c = σ c) (ho : ∀ c, c ≠ 181 → c ≠ 182 → τ' c = τ c) : CR t th σ' τ' ∧ FR t σ σ' τ τ' := by
  obtain ⟨c1, c2, c3, c4, c5, c6, c7⟩ := h
  have e173 : τ' 173 = τ 173 := ho 173 (by decide) (by decide)
  have e172 : τ' 172 = τ 172 := ho 172 (by decide) (by decide)
  have e152 : σ' 152 = σ 152 := hc 152 (by decide) (by decide) (by decide)
  have tt : t = 2 ∨ t = 153 := c1.imp (·.1) (·.1)
  have cc : ∀ c, t ≤ c → c < t + 13 → σ' c = σ c := fun c a b => hc c (by omega) (by omega) (by omega)
  refine ⟨⟨c1, by rw [e152, e172]; exact c2, by rw [e173]; exact TR.agr c3 c4.2.2.1 (fun k a b _ => cc k a b) (fun _ _ _ => rfl), by rw [e173]; exact c4, fun j hj => by rw [cc _ (by omega) (by omega), e173]; exact c5 j hj, ?_, fun e => by rw [hc 15 (by decide) (by decide) (by decide), e173]; exact c7 e⟩, fun c _ _ a b d => hc c a b d, fun _ => hc 15 (by decide) (by decide) (by decide), fun c _ a b => ho c a b, fun j _ _ => by rw [e173], by rw [e173]; exact Int.le_refl _, fun _ j _ _ => by rw [e173]⟩
  rw [e173]
  exact WS.agr c6 (fun _ _ _ => rfl) (fun _ _ _ => rfl) (fun k hk => hc k (by omega) (by omega) (by omega)) (by rw [hc 1 (by decide) (by decide) (by decide)])
/-- a line in the book -/
theorem CR.note (h : CR t th σ τ) (a b c : Int) : ∃ σ' τ', Co_note a b c σ = some σ' ∧ Mo_notes a b c τ = some τ' ∧ CR t th σ' τ' ∧ FR t σ σ' τ τ' ∧ (∀ j, j < 548 → j ≠ 2 → τ' 173 j = τ 173 j) ∧ (∀ k, k ≠ 15 → k ≠ t → σ' k = σ k) ∧ (∀ j, j ≠ 3 → σ' t j = σ t j) ∧ ∀ k, k ≠ 173 → τ' k = τ k := by
  have stay : Co_note a b c σ = some σ → Mo_notes a b c τ = some τ → ∃ σ' τ', Co_note a b c σ = some σ' ∧ Mo_notes a b c τ = some τ' ∧ CR t th σ' τ' ∧ FR t σ σ' τ τ' ∧ (∀ j, j < 548 → j ≠ 2 → τ' 173 j = τ 173 j) ∧ (∀ k, k ≠ 15 → k ≠ t → σ' k = σ k) ∧ (∀ j, j ≠ 3 → σ' t j = σ t j) ∧ ∀ k, k ≠ 173 → τ' k = τ k :=
    fun e1 e2 => ⟨σ, τ, e1, e2, h, FR.refl, fun _ _ _ => rfl, fun _ _ _ => rfl, fun _ _ => rfl, fun _ _ => rfl⟩
  have htn := h.tn
  have htk := h.tkk
  obtain ⟨c1, c2, c3, c4, c5, c6, c7⟩ := h
  rcases c1 with ⟨e1, e2⟩ | ⟨e1, e2⟩
  · subst e1 e2
    have hb := c7 rfl
    have h3 : σ 2 3 = τ 173 2 := c3.2.2.2.1
    have h0 : σ 2 0 = τ 173 0 := c3.1
    have b2 := c4.2.1
    by_cases hf : τ 173 2 = 150
    · refine stay ?_ ?_
      · unfold Co_note
        rw [if_pos c2.2.1, htn, isT_q htk, h3, if_neg (by omega)]
      · unfold Mo_notes
        rw [if_neg (by omega), if_pos hf]
    · obtain ⟨m, hm⟩ := Int.eq_ofNat_of_zero_le b2.1
      have hm' : τ 173 2 = (m : Int) := hm
      refine ⟨su (su (su (su (su σ 15 (4 * m) (τ 173 0)) 15 (4 * m + 1) a) 15 (4 * m + 2) b) 15 (4 * m + 3) c) 2 3 ((m : Int) + 1), su (su (su (su (su τ 173 (733 + 4 * m) (τ 173 0)) 173 (733 + 4 * m + 1) a) 173 (733 + 4 * m + 2) b) 173 (733 + 4 * m + 3) c) 173 2 ((m : Int) + 1), ?_, ?_, ?_⟩
      · unfold Co_note
        rw [if_pos c2.2.1, htn, isT_q htk, h3, if_pos (by omega), isT_q htk, hm', wr_q (by omega) (by omega), ll_q, isT_q htk, ix_q (by omega) (by omega), ll_q, ix_q (by omega) (by omega), ll_q, ix_q (by omega) (by omega), ll_q, ix_q (by omega) (by omega), ll_q, su_c (show (152 : Nat) ≠ 15 by decide), su_c (show (152 : Nat) ≠ 15 by decide), su_c (show (152 : Nat) ≠ 15 by decide), su_c (show (152 : Nat) ≠ 15 by decide), htn, isT_q htk, su_c (show (2 : Nat) ≠ 15 by decide), su_c (show (2 : Nat) ≠ 15 by decide), su_c (show (2 : Nat) ≠ 15 by decide), su_c (show (2 : Nat) ≠ 15 by decide), h3, hm', wr_q (by omega) (by omega), ll_q, h0, show ((m : Int) * 4).toNat = 4 * m by omega, show ((m : Int) * 4 + 1).toNat = 4 * m + 1 by omega, show ((m : Int) * 4 + 2).toNat = 4 * m + 2 by omega, show ((m : Int) * 4 + 3).toNat = 4 * m + 3 by omega]
      · unfold Mo_notes
        rw [if_neg (by omega), if_neg hf, hm', wr_q (by omega) (by omega), ll_q, ix_q (by omega) (by omega), ll_q, ix_q (by omega) (by omega), ll_q, ix_q (by omega) (by omega), ll_q, ix_q (by omega) (by omega), ll_q, show (733 + 4 * (m : Int)).toNat = 733 + 4 * m by omega, show (733 + 4 * (m : Int) + 1).toNat = 733 + 4 * m + 1 by omega, show (733 + 4 * (m : Int) + 2).toNat = 733 + 4 * m + 2 by omega, show (733 + 4 * (m : Int) + 3).toNat = 733 + 4 * m + 3 by omega]
        have e : su (su (su (su τ 173 (733 + 4 * m) (τ 173 0)) 173 (733 + 4 * m + 1) a) 173 (733 + 4 * m + 2) b) 173 (733 + 4 * m + 3) c 173 2 = (m : Int) := by
          rw [su_s, up_n (by omega), su_s, up_n (by omega), su_s, up_n (by omega), su_s, up_n (by omega)]; exact hm'
        rw [e, wr_q (by omega) (by omega), ll_q]
      · have eo : ∀ k, k ≠ 173 → su (su (su (su (su τ 173 (733 + 4 * m) (τ 173 0)) 173 (733 + 4 * m + 1) a) 173 (733 + 4 * m + 2) b) 173 (733 + 4 * m + 3) c) 173 2 ((m : Int) + 1) k = τ k := fun k hk => by rw [su_c hk, su_c hk, su_c hk, su_c hk, su_c hk]
        have es : ∀ k, k ≠ 15 → k ≠ 2 → su (su (su (su (su σ 15 (4 * m) (τ 173 0)) 15 (4 * m + 1) a) 15 (4 * m + 2) b) 15 (4 * m + 3) c) 2 3 ((m : Int) + 1) k = σ k := fun k h1 h2 => by rw [su_c h2, su_c h1, su_c h1, su_c h1, su_c h1]
        have e2' : su (su (su (su (su σ 15 (4 * m) (τ 173 0)) 15 (4 * m + 1) a) 15 (4 * m + 2) b) 15 (4 * m + 3) c) 2 3 ((m : Int) + 1) 2 = up (σ 2) 3 ((m : Int) + 1) := by rw [su_s, su_c (by decide), su_c (by decide), su_c (by decide), su_c (by decide)]
        have e15 : su (su (su (su (su σ 15 (4 * m) (τ 173 0)) 15 (4 * m + 1) a) 15 (4 * m + 2) b) 15 (4 * m + 3) c) 2 3 ((m : Int) + 1) 15 = up (up (up (up (σ 15) (4 * m) (τ 173 0)) (4 * m + 1) a) (4 * m + 2) b) (4 * m + 3) c := by rw [su_c (by decide), su_s, su_s, su_s, su_s]
        have e173 : su (su (su (su (su τ 173 (733 + 4 * m) (τ 173 0)) 173 (733 + 4 * m + 1) a) 173 (733 + 4 * m + 2) b) 173 (733 + 4 * m + 3) c) 173 2 ((m : Int) + 1) 173 = up (up (up (up (up (τ 173) (733 + 4 * m) (τ 173 0)) (733 + 4 * m + 1) a) (733 + 4 * m + 2) b) (733 + 4 * m + 3) c) 2 ((m : Int) + 1) := by rw [su_s, su_s, su_s, su_s, su_s]
        have ag : agr 0 548 (τ 173) (up (up (up (up (τ 173) (733 + 4 * m) (τ 173 0)) (733 + 4 * m + 1) a) (733 + 4 * m + 2) b) (733 + 4 * m + 3) c) := fun j _ hj => by rw [up_n (by omega), up_n (by omega), up_n (by omega), up_n (by omega)]
        have ou : ∀ j, (548 ≤ j ∧ (j < 733 ∨ 1333 ≤ j)) ∨ (j < 548 ∧ j ≠ 2) → up (up (up (up (up (τ 173) (733 + 4 * m) (τ 173 0)) (733 + 4 * m + 1) a) (733 + 4 * m + 2) b) (733 + 4 * m + 3) c) 2 ((m : Int) + 1) j = τ 173 j := fun j hj => by rw [up_n (by omega), up_n (by omega), up_n (by omega), up_n (by omega), up_n (by omega)]
        have hT := TR.noted (v := (m : Int) + 1) (TR.agr (σ' := su (su (su (su σ 15 (4 * m) (τ 173 0)) 15 (4 * m + 1) a) 15 (4 * m + 2) b) 15 (4 * m + 3) c) c3 c4.2.2.1 (fun k h1 h2 _ => by rw [su_c (by omega), su_c (by omega), su_c (by omega), su_c (by omega)]) ag)
        have hW := WF.noted (v := (m : Int) + 1) (WF.agr c4 ag) (by omega)
        refine ⟨⟨.inl ⟨rfl, rfl⟩, ?_, ?_, ?_, ?_, ?_, fun _ => ?_⟩, ⟨?_, ?_, ?_, ?_, ?_, ?_⟩, ?_, es, ?_, eo⟩
        · rw [es 152 (by decide) (by decide), eo 172 (by decide)]; exact c2
        · rw [e173]; exact hT
        · rw [e173]; exact hW
        · intro j hj
          rw [es _ (by decide) (by decide), e173, ou _ (by omega)]; exact c5 j hj
        · rw [e173]
          exact WS.agr c6 (fun j h1 h2 => ou j (by omega)) (fun j h1 h2 => ou j (by omega)) (fun k hk => es k (by omega) (by omega)) (by rw [es 1 (by decide) (by decide)])
        · rw [e15, e173]
          intro j hj
          rw [up_a] at hj
          rw [up_n (j' := 733 + j) (by omega)]
          by_cases j3 : j = 4 * m + 3
          · rw [j3, up_a, show 733 + (4 * m + 3) = 733 + 4 * m + 3 by omega, up_a]
          · rw [up_n j3, up_n (j' := 733 + j) (by omega)]
            by_cases j2 : j = 4 * m + 2
            · rw [j2, up_a, show 733 + (4 * m + 2) = 733 + 4 * m + 2 by omega, up_a]
            · rw [up_n j2, up_n (j' := 733 + j) (by omega)]
              by_cases j1 : j = 4 * m + 1
              · rw [j1, up_a, show 733 + (4 * m + 1) = 733 + 4 * m + 1 by omega, up_a]
              · rw [up_n j1, up_n (j' := 733 + j) (by omega)]
                by_cases j0 : j = 4 * m
                · rw [j0, up_a, up_a]
                · rw [up_n j0, up_n (by omega)]
                  exact hb j (by omega)
        · exact fun k _ h1 _ _ _ => by
            by_cases e : k = 2
            · omega
            · exact es k h1 e
        · intro e; omega
        · exact fun k h1 _ _ => eo k h1
        · intro j h1 h2; rw [e173]; exact ou j (.inl ⟨h1, h2⟩)
        · rw [e173, up_a]; omega
        · intro e; omega
        · intro j h1 h2; rw [e173]; exact ou j (.inr ⟨h1, h2⟩)
        · intro j hj; rw [e2', up_n hj]
  · subst e1 e2
    refine stay ?_ ?_
    · unfold Co_note
      rw [if_neg (by omega)]
    · unfold Mo_notes
      rw [if_pos (by omega)]
end Course
