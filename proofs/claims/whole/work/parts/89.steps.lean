/-! a talk's steps: messages -/
section Steps
variable {t : Nat} {σ σ' : Sg} {w w' : Nat → Int}
/-- a field of a message: class's cell and reference's -/
theorem TR.fld {i f : Nat} {v o a : Int} (h : TR t σ w) (hf : f < 9) (hi : (i : Int) < w 3) (h60 : w 3 ≤ 60) (hm : σ' (t + 4 + f) = up (σ (t + 4 + f)) i v) (hc : ∀ c, t < c → c < t + 13 → c ≠ t + 4 + f → σ' c = σ c) (h0 : ∀ j, j ≠ 4 → j ≠ 5 → σ' t j = σ t j) (h4 : σ' t 4 = o) (h5 : σ' t 5 = a) (ho : o = opn (up w (8 + 9 * i + f) v) (w 3).toNat) (ha : a = awt (up w (8 + 9 * i + f) v) (w 3).toNat) : TR t σ' (up w (8 + 9 * i + f) v) := by
  obtain ⟨q1, q2, q3, q4, q5, q6, q7, q8⟩ := h
  have lo : ∀ j, j < 8 → up w (8 + 9 * i + f) v j = w j := fun j hj => up_n (by omega)
  unfold TR
  rw [lo 0 (by omega), lo 1 (by omega), lo 2 (by omega), lo 3 (by omega), h0 0 (by decide) (by decide), h0 1 (by decide) (by decide), h0 2 (by decide) (by decide), h0 3 (by decide) (by decide), h4, h5, hc (t + 1) (by omega) (by omega) (by omega), hc (t + 2) (by omega) (by omega) (by omega)]
  refine ⟨q1, q2, q3, q4, ho, ha, fun j hj => ?_, fun i' f' hi' hf' => ?_⟩
  · rw [lo _ (by omega), lo _ (by omega)]; exact q7 j hj
  · by_cases e : f' = f
    · subst e
      rw [hm]
      by_cases e2 : i' = i
      · subst e2; rw [up_a, mW_at]
      · rw [up_n e2, mW_ne hf hf (.inl e2)]; exact q8 i' f' hi' hf'
    · rw [hc _ (by omega) (by omega) (by omega), mW_ne hf hf' (.inr e)]; exact q8 i' f' hi' hf'
/-- a new message -/
theorem TR.add {n : Nat} {vals : Nat → Int} (h : TR t σ w) (hn : w 3 = n) (hn60 : n < 60) (hm : ∀ f, f < 9 → σ' (t + 4 + f) = up (σ (t + 4 + f)) n (vals f)) (h12 : σ' (t + 1) = σ (t + 1) ∧ σ' (t + 2) = σ (t + 2)) (h0 : ∀ j, j ≠ 2 → j ≠ 4 → σ' t j = σ t j) (h2 : σ' t 2 = σ t 2 + 1) (h4 : σ' t 4 = σ t 4 + 1) (hl : ∀ j, j < 8 → j ≠ 3 → w' j = w j) (h3 : w' 3 = w 3 + 1) (hv : ∀ f, f < 9 → mW w' n f = vals f) (ho : ∀ i f, i < n → f < 9 → mW w' i f = mW w i f) (v2 : vals 2 = -1) (v7 : vals 7 = 0) (v8 : vals 8 = -1) : TR t σ' w' := by
  obtain ⟨q1, q2, q3, q4, q5, q6, q7, q8⟩ := h
  have e3 : (w' 3).toNat = n + 1 := by omega
  have e4 : (w 3).toNat = n := by omega
  rw [e4] at q5 q6
  unfold TR
  rw [e3, h0 0 (by decide) (by decide), h0 1 (by decide) (by decide), h0 3 (by decide) (by decide), h0 5 (by decide) (by decide), h2, h4, h12.1, h12.2, hl 0 (by decide) (by decide), hl 1 (by decide) (by decide), hl 2 (by decide) (by decide)]
  refine ⟨q1, q2, by omega, q4, ?_, ?_, fun j hj => ?_, fun i f hi hf => ?_⟩
  · unfold opn
    rw [opn_agr (w := w) n (fun i hi => ⟨ho i 2 hi (by decide), ho i 7 hi (by decide)⟩), hv 2 (by decide), hv 7 (by decide), if_pos ⟨v2, v7⟩]
    omega
  · unfold awt
    rw [awt_agr (w := w) n (fun i hi => ho i 8 hi (by decide)), hv 8 (by decide), if_pos v8]
    omega
  · rw [hl _ (by omega) (by omega), hl _ (by omega) (by omega)]; exact q7 j hj
  · rw [hm f hf]
    by_cases e : i = n
    · subst e; rw [up_a, hv f hf]
    · rw [up_n e, ho i f (by omega) hf]; exact q8 i f (by omega) hf
theorem WF.fld (h : WF w) {i f : Nat} {v : Int} (hi : (i : Int) < w 3) (hf : f = 2 ∨ f = 7 ∨ f = 8) (h2 : f = 2 → mW w i 1 < v ∧ v ≤ w 0) (h7 : f = 7 → v = 0 ∨ v = 1) (h8 : f = 8 → v = -1 ∨ (w 0 ≤ v ∧ v ≤ w 0 + 1000 ∧ mW w i 2 ≠ -1)) : WF (up w (8 + 9 * i + f) v) := by
  obtain ⟨w1, w2, w3, w4, w5⟩ := h
  have lo : ∀ j, j < 8 → up w (8 + 9 * i + f) v j = w j := fun j hj => up_n (by omega)
  unfold WF
  rw [lo 0 (by omega), lo 2 (by omega), lo 3 (by omega)]
  refine ⟨w1, w2, w3, fun j hj => ?_, fun i' hi' => ?_⟩
  · rw [lo _ (by omega), lo _ (by omega)]; exact w4 j hj
  · have keep : ∀ k f', f' < 9 → (k ≠ i ∨ f' ≠ f) → mW (up w (8 + 9 * i + f) v) k f' = mW w k f' := fun k f' hf' hk => mW_ne (by omega) hf' hk
    have g0 : ∀ k, mW (up w (8 + 9 * i + f) v) k 0 = mW w k 0 := fun k => keep k 0 (by decide) (by omega)
    have g1 : ∀ k, mW (up w (8 + 9 * i + f) v) k 1 = mW w k 1 := fun k => keep k 1 (by decide) (by omega)
    have g3 := keep i' 3 (by decide) (by omega)
    have g4 := keep i' 4 (by decide) (by omega)
    have g5 := keep i' 5 (by decide) (by omega)
    have g6 := keep i' 6 (by decide) (by omega)
    have g2 : ¬ (i' = i ∧ f = 2) → mW (up w (8 + 9 * i + f) v) i' 2 = mW w i' 2 := fun z => keep i' 2 (by decide) (by omega)
    have g7 : ¬ (i' = i ∧ f = 7) → mW (up w (8 + 9 * i + f) v) i' 7 = mW w i' 7 := fun z => keep i' 7 (by decide) (by omega)
    have g8 : ¬ (i' = i ∧ f = 8) → mW (up w (8 + 9 * i + f) v) i' 8 = mW w i' 8 := fun z => keep i' 8 (by decide) (by omega)
    have q := w5 i' hi'
    unfold MF at q ⊢
    rw [lo 0 (by decide), g0 i', g1 i', g3, g4, g5, g6]
    obtain ⟨p1, p2, p3, p4, p5, p6, p7, p8, p9, p10⟩ := q
    refine ⟨p1, p2, ?_, p4, p5, p6, ?_, ?_, ?_, ?_⟩
    · by_cases e : i' = i ∧ f = 2
      · obtain ⟨e1, e2⟩ := e
        subst e1 e2
        rw [mW_at]
        exact .inr (h2 rfl)
      · rw [g2 e]; exact p3
    · rcases p7 with p7 | ⟨k, k1, k2, k3, k4⟩
      · exact .inl p7
      · exact .inr ⟨k, k1, k2, by rw [g0]; exact k3, by rw [g1]; exact k4⟩
    · by_cases e : i' = i ∧ f = 7
      · obtain ⟨e1, e2⟩ := e
        subst e1 e2
        rw [mW_at]
        exact h7 rfl
      · rw [g7 e]; exact p8
    · by_cases e : i' = i ∧ f = 8
      · obtain ⟨e1, e2⟩ := e
        subst e1 e2
        rw [mW_at, g2 (by omega)]
        exact h8 rfl
      · rw [g8 e]
        rcases p9 with p9 | ⟨a1, a2, a3⟩
        · exact .inl p9
        · refine .inr ⟨a1, a2, ?_⟩
          by_cases e' : i' = i ∧ f = 2
          · obtain ⟨e1, e2⟩ := e'
            subst e1 e2
            rw [mW_at]
            have := h2 rfl
            omega
          · rw [g2 e']; exact a3
    · intro k hk
      rw [g1]; exact p10 k hk
theorem WF.add {n : Nat} (h : WF w) (hn : w 3 = n) (hn60 : n < 60) (hl : ∀ j, j < 8 → j ≠ 3 → w' j = w j) (h3 : w' 3 = w 3 + 1) (ho : ∀ i f, i < n → f < 9 → mW w' i f = mW w i f) (v0 : mW w' n 0 = 0 ∨ mW w' n 0 = 1) (v1 : mW w' n 1 = w 0) (v2 : mW w' n 2 = -1) (v3 : 1 ≤ mW w' n 3 ∧ mW w' n 3 ≤ 99) (v4 : 0 ≤ mW w' n 4 ∧ mW w' n 4 ≤ 9) (v5 : mW w' n 5 = 0 ∨ mW w' n 5 = 1) (v6 : mW w' n 6 = -1 ∨ ∃ k : Nat, k < n ∧ mW w' n 6 = k ∧ mW w k 0 = 1 - mW w' n 0 ∧ mW w k 1 < w 0) (v7 : mW w' n 7 = 0) (v8 : mW w' n 8 = -1) : WF w' := by
  obtain ⟨w1, w2, w3, w4, w5⟩ := h
  unfold WF
  rw [hl 0 (by omega) (by omega), hl 2 (by omega) (by omega), h3]
  refine ⟨w1, w2, by omega, fun j hj => ?_, fun i hi => ?_⟩
  · rw [hl _ (by omega) (by omega), hl _ (by omega) (by omega)]; exact w4 j hj
  · by_cases e : i = n
    · subst e
      unfold MF
      rw [hl 0 (by omega) (by omega), v1, v2, v7, v8]
      refine ⟨v0, by omega, .inl rfl, v3, v4, v5, ?_, .inl rfl, .inl rfl, fun k hk => ?_⟩
      · rcases v6 with v6 | ⟨k, k1, k2, k3, k4⟩
        · exact .inl v6
        · exact .inr ⟨k, k1, k2, by rw [ho k 0 k1 (by decide)]; exact k3, by rw [ho k 1 k1 (by decide)]; exact k4⟩
      · rw [ho k 1 hk (by decide)]
        exact (w5 k (by omega)).2.1.2
    · have hi' : i < n := by omega
      have q := w5 i (by omega)
      unfold MF at q ⊢
      rw [hl 0 (by omega) (by omega), ho i 0 hi' (by decide), ho i 1 hi' (by decide), ho i 2 hi' (by decide), ho i 3 hi' (by decide), ho i 4 hi' (by decide), ho i 5 hi' (by decide), ho i 6 hi' (by decide), ho i 7 hi' (by decide), ho i 8 hi' (by decide)]
      obtain ⟨p1, p2, p3, p4, p5, p6, p7, p8, p9, p10⟩ := q
      refine ⟨p1, p2, p3, p4, p5, p6, ?_, p8, p9, fun k hk => ?_⟩
      · rcases p7 with p7 | ⟨k, k1, k2, k3, k4⟩
        · exact .inl p7
        · exact .inr ⟨k, k1, k2, by rw [ho k 0 (by omega) (by decide)]; exact k3, by rw [ho k 1 (by omega) (by decide)]; exact k4⟩
      · rw [ho k 1 (by omega) (by decide)]; exact p10 k hk
theorem WF.min (h : WF w) {v : Int} (hv : w 0 ≤ v ∧ v ≤ 200000) (hd : ∀ i : Nat, (i : Int) < w 3 → mW w i 8 = -1 ∨ (v ≤ mW w i 8)) : WF (up w 0 v) := by
  obtain ⟨w1, w2, w3, w4, w5⟩ := h
  have lo : ∀ j, j ≠ 0 → up w 0 v j = w j := fun j hj => up_n hj
  unfold WF
  rw [lo 2 (by omega), lo 3 (by omega), up_a]
  refine ⟨by omega, w2, w3, fun j hj => ?_, fun i hi => ?_⟩
  · rw [lo _ (by omega), lo _ (by omega)]; exact w4 j hj
  · have q := w5 i hi
    have q2 := hd i hi
    unfold MF at q ⊢
    simp only [mW_low (show (0 : Nat) < 8 by decide)]
    rw [up_a]
    obtain ⟨p1, p2, p3, p4, p5, p6, p7, p8, p9, p10⟩ := q
    exact ⟨p1, by clear p7; omega, by clear p7; omega, p4, p5, p6, p7, p8, by clear p7; omega, p10⟩
theorem WF.lowS (h : WF w) {v : Int} : WF (up w 1 v) := by
  obtain ⟨w1, w2, w3, w4, w5⟩ := h
  refine ⟨by rw [up_n (by decide)]; exact w1, by rw [up_n (by decide)]; exact w2, by rw [up_n (by decide)]; exact w3, fun j hj => by rw [up_n (by omega), up_n (by omega)]; exact w4 j hj, fun i hi => ?_⟩
  rw [up_n (by decide)] at hi
  have h5 := w5 i hi
  unfold MF at h5 ⊢
  simp only [mW_low (show (1 : Nat) < 8 by decide)]
  rw [up_n (by decide)]
  exact h5
theorem WF.noted (h : WF w) {v : Int} (hv : 0 ≤ v ∧ v ≤ 150) : WF (up w 2 v) := by
  obtain ⟨w1, w2, w3, w4, w5⟩ := h
  refine ⟨by rw [up_n (by decide)]; exact w1, by rw [up_a]; exact hv, by rw [up_n (by decide)]; exact w3, fun j hj => by rw [up_n (by omega), up_n (by omega)]; exact w4 j hj, fun i hi => ?_⟩
  rw [up_n (by decide)] at hi
  have h5 := w5 i hi
  unfold MF at h5 ⊢
  simp only [mW_low (show (2 : Nat) < 8 by decide)]
  rw [up_n (by decide)]
  exact h5
end Steps
