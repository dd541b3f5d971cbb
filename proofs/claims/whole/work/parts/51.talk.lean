/-! a talk's cells and the reference's row, step by step -/
def up (w : Nat → Int) (j : Nat) (v : Int) : Nat → Int := fun j' => if j' = j then v else w j'
theorem up_a {w : Nat → Int} {j : Nat} {v : Int} : up w j v j = v := if_pos rfl
theorem up_n {w : Nat → Int} {j j' : Nat} {v : Int} (h : j' ≠ j) : up w j v j' = w j' := if_neg h
theorem su_s {σ : Sg} {k j : Nat} {v : Int} : su σ k j v k = up (σ k) j v := by
  funext j'; unfold su up
  by_cases h : j' = j
  · rw [if_pos ⟨rfl, h⟩, if_pos h]
  · rw [if_neg (fun z => h z.2), if_neg h]
theorem mW_low {w : Nat → Int} {j : Nat} {v : Int} (h : j < 8) (i f : Nat) : mW (up w j v) i f = mW w i f := up_n (by omega)
theorem mW_at {w : Nat → Int} {i f : Nat} {v : Int} : mW (up w (8 + 9 * i + f) v) i f = v := up_a
theorem mW_ne {w : Nat → Int} {i f i' f' : Nat} {v : Int} (hf : f < 9) (hf' : f' < 9) (h : i' ≠ i ∨ f' ≠ f) : mW (up w (8 + 9 * i + f) v) i' f' = mW w i' f' := up_n (by omega)
theorem opn_agr {w w' : Nat → Int} : ∀ n, (∀ i, i < n → mW w' i 2 = mW w i 2 ∧ mW w' i 7 = mW w i 7) → opn w' n = opn w n
  | 0, _ => rfl
  | n + 1, h => by unfold opn; rw [opn_agr n (fun i hi => h i (by omega)), (h n (by omega)).1, (h n (by omega)).2]
theorem awt_agr {w w' : Nat → Int} : ∀ n, (∀ i, i < n → mW w' i 8 = mW w i 8) → awt w' n = awt w n
  | 0, _ => rfl
  | n + 1, h => by unfold awt; rw [awt_agr n (fun i hi => h i (by omega)), h n (by omega)]
theorem opn_nn {w : Nat → Int} : ∀ n, 0 ≤ opn w n ∧ opn w n ≤ n
  | 0 => by unfold opn; omega
  | n + 1 => by
    have h := opn_nn (w := w) n
    unfold opn; split <;> omega
theorem awt_nn {w : Nat → Int} : ∀ n, 0 ≤ awt w n ∧ awt w n ≤ n
  | 0 => by unfold awt; omega
  | n + 1 => by
    have h := awt_nn (w := w) n
    unfold awt; split <;> omega
theorem opn_zero {w : Nat → Int} : ∀ n, opn w n = 0 → ∀ i, i < n → ¬ (mW w i 2 = -1 ∧ mW w i 7 = 0)
  | 0, _, i, hi => by omega
  | n + 1, h, i, hi => by
    have h1 := opn_nn (w := w) n
    unfold opn at h
    by_cases hc : mW w n 2 = -1 ∧ mW w n 7 = 0
    · rw [if_pos hc] at h; omega
    · rw [if_neg hc] at h
      rcases Nat.lt_or_ge i n with h2 | h2
      · exact opn_zero n (by omega) i h2
      · rw [show i = n by omega]; exact hc
theorem awt_zero {w : Nat → Int} : ∀ n, awt w n = 0 → ∀ i, i < n → mW w i 8 = -1
  | 0, _, i, hi => by omega
  | n + 1, h, i, hi => by
    have h1 := awt_nn (w := w) n
    unfold awt at h
    by_cases hc : mW w n 8 = -1
    · rcases Nat.lt_or_ge i n with h2 | h2
      · exact awt_zero n (by rw [if_pos hc] at h; omega) i h2
      · rw [show i = n by omega]; exact hc
    · rw [if_neg hc] at h; omega
/-- a message is read or taken back -/
theorem opn_off {w w' : Nat → Int} : ∀ n i, i < n → (mW w i 2 = -1 ∧ mW w i 7 = 0) → ¬ (mW w' i 2 = -1 ∧ mW w' i 7 = 0) → (∀ k, k ≠ i → mW w' k 2 = mW w k 2 ∧ mW w' k 7 = mW w k 7) → opn w' n = opn w n - 1
  | 0, i, hi, _, _, _ => by omega
  | n + 1, i, hi, h1, h2, h3 => by
    unfold opn
    rcases Nat.lt_or_ge i n with h4 | h4
    · rw [opn_off n i h4 h1 h2 h3, (h3 n (by omega)).1, (h3 n (by omega)).2]; omega
    · have e : i = n := by omega
      subst e
      rw [if_pos h1, if_neg h2, opn_agr i (fun k hk => h3 k (by omega))]; omega
theorem awt_off {w w' : Nat → Int} : ∀ n i, i < n → mW w i 8 ≠ -1 → mW w' i 8 = -1 → (∀ k, k ≠ i → mW w' k 8 = mW w k 8) → awt w' n = awt w n - 1
  | 0, i, hi, _, _, _ => by omega
  | n + 1, i, hi, h1, h2, h3 => by
    unfold awt
    rcases Nat.lt_or_ge i n with h4 | h4
    · rw [awt_off n i h4 h1 h2 h3, h3 n (by omega)]; omega
    · have e : i = n := by omega
      subst e
      rw [if_neg h1, if_pos h2, awt_agr i (fun k hk => h3 k (by omega))]; omega
theorem awt_on {w w' : Nat → Int} : ∀ n i, i < n → mW w i 8 = -1 → mW w' i 8 ≠ -1 → (∀ k, k ≠ i → mW w' k 8 = mW w k 8) → awt w' n = awt w n + 1
  | 0, i, hi, _, _, _ => by omega
  | n + 1, i, hi, h1, h2, h3 => by
    unfold awt
    rcases Nat.lt_or_ge i n with h4 | h4
    · rw [awt_on n i h4 h1 h2 h3, h3 n (by omega)]; omega
    · have e : i = n := by omega
      subst e
      rw [if_pos h1, if_neg h2, awt_agr i (fun k hk => h3 k (by omega))]; omega
theorem awt_none {w : Nat → Int} : ∀ n, (∀ i, i < n → mW w i 8 = -1) → awt w n = 0
  | 0, _ => rfl
  | n + 1, h => by unfold awt; rw [awt_none n (fun i hi => h i (by omega)), if_pos (h n (by omega))]; rfl
/-! the talk's relation and what it depends on -/
theorem TR.agr {t : Nat} {σ σ' : Sg} {w w' : Nat → Int} (h : TR t σ w) (hn : 0 ≤ w 3 ∧ w 3 ≤ 60) (hc : ∀ k, t ≤ k → k < t + 13 → k ≠ t + 3 → σ' k = σ k) (hw : agr 0 548 w w') : TR t σ' w' := by
  obtain ⟨h1, h2, h3, h4, h5, h6, h7, h8⟩ := h
  have e : ∀ j, j < 548 → w' j = w j := fun j hj => hw j (by omega) hj
  have em : ∀ i f, i < 60 → f < 9 → mW w' i f = mW w i f := fun i f hi hf => e _ (by omega)
  unfold TR
  rw [hc t (by omega) (by omega) (by omega), hc (t + 1) (by omega) (by omega) (by omega), hc (t + 2) (by omega) (by omega) (by omega), e 0 (by omega), e 1 (by omega), e 2 (by omega), e 3 (by omega)]
  refine ⟨h1, h2, h3, h4, ?_, ?_, fun j hj => ?_, fun i f hi hf => ?_⟩
  · rw [opn_agr (w := w) _ (fun i hi => ⟨em i 2 (by omega) (by omega), em i 7 (by omega) (by omega)⟩)]; exact h5
  · rw [awt_agr (w := w) _ (fun i hi => em i 8 (by omega) (by omega))]; exact h6
  · rw [e _ (by omega), e _ (by omega)]; exact h7 j hj
  · rw [hc _ (by omega) (by omega) (by omega), em i f (by omega) hf]; exact h8 i f hi hf
theorem MF.agr {w w' : Nat → Int} {i : Nat} (hi : i < 60) (h : MF w i) (hw : agr 0 548 w w') : MF w' i := by
  have e : ∀ j, j < 548 → w' j = w j := fun j hj => hw j (by omega) hj
  have em : ∀ i f, i < 60 → f < 9 → mW w' i f = mW w i f := fun i f hi hf => e _ (by omega)
  unfold MF at h ⊢
  rw [em i 0 hi (by omega), em i 1 hi (by omega), em i 2 hi (by omega), em i 3 hi (by omega), em i 4 hi (by omega), em i 5 hi (by omega), em i 6 hi (by omega), em i 7 hi (by omega), em i 8 hi (by omega), e 0 (by omega)]
  obtain ⟨h1, h2, h3, h4, h5, h6, h7, h8, h9, h10⟩ := h
  refine ⟨h1, h2, h3, h4, h5, h6, ?_, h8, h9, fun k hk => ?_⟩
  · rcases h7 with h7 | ⟨k, g1, g2, g3⟩
    · exact Or.inl h7
    · exact Or.inr ⟨k, g1, g2, by rw [em k 0 (by omega) (by omega), em k 1 (by omega) (by omega)]; exact g3⟩
  · rw [em k 1 (by omega) (by omega)]; exact h10 k hk
theorem WF.agr {w w' : Nat → Int} (h : WF w) (hw : agr 0 548 w w') : WF w' := by
  obtain ⟨h1, h2, h3, h4, h5⟩ := h
  have e : ∀ j, j < 548 → w' j = w j := fun j hj => hw j (by omega) hj
  unfold WF
  rw [e 0 (by omega), e 2 (by omega), e 3 (by omega)]
  refine ⟨h1, h2, h3, fun j hj => ?_, fun i hi => MF.agr (by omega) (h5 i hi) hw⟩
  rw [e _ (by omega), e _ (by omega)]; exact h4 j hj
theorem BK.agr {b b' : Nat → Int} {w w' : Nat → Int} (h : BK b w) (h2 : 0 ≤ w 2 ∧ w 2 ≤ 150) (hb : b' = b) (hw : w' 2 = w 2) (hw2 : agr 733 1333 w w') : BK b' w' := by
  intro j hj
  rw [hw] at hj
  rw [hb, hw2 _ (by omega) (by omega)]; exact h j hj
theorem PS.agr {σ σ' τ τ' : Sg} (h : PS σ τ) (hc : ∀ k, 61 ≤ k → k < 141 → σ' k = σ k) (h4 : τ' 172 4 = τ 172 4) (h5 : τ' 175 = τ 175) (h2 : τ 173 2 ≤ τ' 173 2) (ht : ∀ j, j < 2 → τ' 173 (548 + j) = τ 173 (548 + j)) : PS σ' τ' := by
  obtain ⟨g1, g2, g3, g4⟩ := h
  have hp : ∀ k, pT σ' k = pT σ k := fun k => by unfold pT; rw [hc 61 (by omega) (by omega)]
  have hr : ∀ k, 63 ≤ pT σ k ∧ pT σ k + 13 ≤ 141 := fun k => by unfold pT; omega
  unfold PS
  rw [hc 61 (by omega) (by omega), h4, h5]
  refine ⟨g1, g2, g3, fun k hk => ?_⟩
  obtain ⟨q1, q2, q3, q4, q5⟩ := g4 k hk
  rw [hp k]
  have := hr k
  refine ⟨TR.agr q1 q2.2.2.1 (fun c a1 a2 _ => hc c (by omega) (by omega)) (fun _ _ _ => rfl), q2, q3, ⟨by omega, q4.2⟩, fun j hj => ?_⟩
  rw [hc _ (by omega) (by omega), ht j hj]; exact q5 j hj
theorem IM.agr {σ σ' τ τ' : Sg} (h : IM σ τ) (h9 : σ' 0 9 = σ 0 9) (hc : ∀ k, 31 ≤ k → k < 61 → σ' k = σ k) (h5 : τ' 172 5 = τ 172 5) (h4 : τ' 174 = τ 174) : IM σ' τ' := by
  obtain ⟨g1, g2, g3⟩ := h
  unfold IM
  rw [h9, h5, h4]
  refine ⟨g1, g2, fun he => ?_⟩
  obtain ⟨q1, q2, q3, q4, q5⟩ := g3 he
  refine ⟨TR.agr q1 q2.2.2.1 (fun c a1 a2 _ => hc c (by omega) (by omega)) (fun _ _ _ => rfl), q2, q3, WS.agr q4 (fun _ _ _ => rfl) (fun _ _ _ => rfl) (fun k hk => hc k (by omega) (by omega)) (by rw [hc 31 (by omega) (by omega)]), ?_⟩
  rw [hc (31 + 14) (by omega) (by omega)]; exact q5
theorem RD.agr {σ σ' τ τ' : Sg} (h : RD σ τ) (h1 : σ' 141 1 = σ 141 1) (h2 : σ' 141 2 = σ 141 2) (h3 : σ' 141 3 = σ 141 3) (h4 : σ' 145 = σ 145) (g1 : τ' 172 16 = τ 172 16) (g2 : τ' 172 23 = τ 172 23) (g3 : τ' 172 25 = τ 172 25) (g4 : τ' 180 = τ 180) : RD σ' τ' := by
  unfold RD at h ⊢
  rw [h1, h2, h3, h4, g1, g2, g3, g4]; exact h
/-! steps that change a talk -/
section TalkSteps
variable {t : Nat} {σ : Sg} {w : Nat → Int}
theorem TR.minute {v : Int} (h : TR t σ w) : TR t (su σ t 0 v) (up w 0 v) := by
  obtain ⟨h1, h2, h3, h4, h5, h6, h7, h8⟩ := h
  unfold TR
  rw [su_s, show up w 0 v 3 = w 3 from up_n (by decide)]
  refine ⟨by simp [up], by simpa [up] using h2, by simpa [up] using h3, by simpa [up] using h4, ?_, ?_, fun j hj => ?_, fun i f hi hf => ?_⟩
  · rw [opn_agr (w := w) _ (fun i _ => ⟨mW_low (by omega) _ _, mW_low (by omega) _ _⟩), up_n (by decide)]; exact h5
  · rw [awt_agr (w := w) _ (fun i _ => mW_low (by omega) _ _), up_n (by decide)]; exact h6
  · rw [su_c (by omega), su_c (by omega), up_n (by omega), up_n (by omega)]; exact h7 j hj
  · rw [su_c (by omega), mW_low (by omega)]; exact h8 i f hi hf
theorem TR.stateS {v : Int} (h : TR t σ w) : TR t (su σ t 1 v) (up w 1 v) := by
  obtain ⟨h1, h2, h3, h4, h5, h6, h7, h8⟩ := h
  unfold TR
  rw [su_s, show up w 1 v 3 = w 3 from up_n (by decide)]
  refine ⟨by simpa [up] using h1, by simp [up], by simpa [up] using h3, by simpa [up] using h4, ?_, ?_, fun j hj => ?_, fun i f hi hf => ?_⟩
  · rw [opn_agr (w := w) _ (fun i _ => ⟨mW_low (by omega) _ _, mW_low (by omega) _ _⟩), up_n (by decide)]; exact h5
  · rw [awt_agr (w := w) _ (fun i _ => mW_low (by omega) _ _), up_n (by decide)]; exact h6
  · rw [su_c (by omega), su_c (by omega), up_n (by omega), up_n (by omega)]; exact h7 j hj
  · rw [su_c (by omega), mW_low (by omega)]; exact h8 i f hi hf
theorem TR.cross {one : Nat} {v : Int} (ho : one < 2) (h : TR t σ w) : TR t (su σ (t + 1) one v) (up w (4 + one) v) := by
  obtain ⟨h1, h2, h3, h4, h5, h6, h7, h8⟩ := h
  unfold TR
  rw [su_c (by omega), up_n (by omega), up_n (by omega), up_n (by omega), up_n (by omega)]
  refine ⟨h1, h2, h3, h4, ?_, ?_, fun j hj => ?_, fun i f hi hf => ?_⟩
  · rw [opn_agr (w := w) _ (fun i _ => ⟨mW_low (by omega) _ _, mW_low (by omega) _ _⟩)]; exact h5
  · rw [awt_agr (w := w) _ (fun i _ => mW_low (by omega) _ _)]; exact h6
  · rw [su_s, su_c (k' := t + 2) (by omega), up_n (j' := 6 + j) (by omega)]
    refine ⟨?_, (h7 j hj).2⟩
    by_cases e : j = one
    · subst e; rw [up_a, up_a]
    · rw [up_n e, up_n (by omega)]; exact (h7 j hj).1
  · rw [su_c (by omega), mW_low (by omega)]; exact h8 i f hi hf
theorem TR.took {one : Nat} {v : Int} (ho : one < 2) (h : TR t σ w) : TR t (su σ (t + 2) one v) (up w (6 + one) v) := by
  obtain ⟨h1, h2, h3, h4, h5, h6, h7, h8⟩ := h
  unfold TR
  rw [su_c (by omega), up_n (by omega), up_n (by omega), up_n (by omega), up_n (by omega)]
  refine ⟨h1, h2, h3, h4, ?_, ?_, fun j hj => ?_, fun i f hi hf => ?_⟩
  · rw [opn_agr (w := w) _ (fun i _ => ⟨mW_low (by omega) _ _, mW_low (by omega) _ _⟩)]; exact h5
  · rw [awt_agr (w := w) _ (fun i _ => mW_low (by omega) _ _)]; exact h6
  · rw [su_s, su_c (k' := t + 1) (by omega), up_n (j' := 4 + j) (by omega)]
    refine ⟨(h7 j hj).1, ?_⟩
    by_cases e : j = one
    · subst e; rw [up_a, up_a]
    · rw [up_n e, up_n (by omega)]; exact (h7 j hj).2
  · rw [su_c (by omega), mW_low (by omega)]; exact h8 i f hi hf
theorem TR.noted {v : Int} (h : TR t σ w) : TR t (su σ t 3 v) (up w 2 v) := by
  obtain ⟨h1, h2, h3, h4, h5, h6, h7, h8⟩ := h
  unfold TR
  rw [su_s, show up w 2 v 3 = w 3 from up_n (by decide)]
  refine ⟨by simpa [up] using h1, by simpa [up] using h2, by simpa [up] using h3, by simp [up], ?_, ?_, fun j hj => ?_, fun i f hi hf => ?_⟩
  · rw [opn_agr (w := w) _ (fun i _ => ⟨mW_low (by omega) _ _, mW_low (by omega) _ _⟩), up_n (by decide)]; exact h5
  · rw [awt_agr (w := w) _ (fun i _ => mW_low (by omega) _ _), up_n (by decide)]; exact h6
  · rw [su_c (by omega), su_c (by omega), up_n (by omega), up_n (by omega)]; exact h7 j hj
  · rw [su_c (by omega), mW_low (by omega)]; exact h8 i f hi hf
end TalkSteps
