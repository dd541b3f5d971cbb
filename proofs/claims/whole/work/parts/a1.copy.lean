/-! a talk is copied; a talk is laid aside and put back -/
theorem cpy_c {σ : Sg} {a b k : Nat} {n : Int} (h : k ≠ b) : cpy σ a b n k = σ k := by funext j; unfold cpy; rw [if_neg (fun z => h z.1)]
theorem cpy_a {σ : Sg} {a b : Nat} {n : Int} {j : Nat} (h : (j : Int) < n) : cpy σ a b n b j = σ a j := by unfold cpy; rw [if_pos ⟨rfl, h⟩]
theorem cx_q {α : Type} {n n0 n1 : Int} {o : Option α} (h : 0 ≤ n ∧ n ≤ n0 ∧ n ≤ n1) : cx n n0 n1 o = o := if_pos h
section Copy
variable {t a : Nat} {σ τ : Sg}
theorem cop3 (hd : a + 13 ≤ t ∨ t + 13 ≤ a) {n : Nat} (hn : n ≤ 60) (h2 : σ t 2 = n) : ∃ σ', Ta_copyFrom_50_w t a 2 σ = some σ' ∧ (∀ c, (c < t + 4 ∨ t + 13 ≤ c) → σ' c = σ c) ∧ ∀ f j, f < 9 → j < n → σ' (t + 4 + f) j = σ (a + 4 + f) j := by
  refine ⟨cpy (cpy (cpy (cpy (cpy (cpy (cpy (cpy (cpy σ (a + 4) (t + 4) n) (a + 5) (t + 5) n) (a + 6) (t + 6) n) (a + 7) (t + 7) n) (a + 8) (t + 8) n) (a + 9) (t + 9) n) (a + 10) (t + 10) n) (a + 11) (t + 11) n) (a + 12) (t + 12) n, wl_end ?_, fun c hc => ?_, fun f j hf hj => ?_⟩
  · show Ta_copyFrom_50_b t a 2 σ = _
    unfold Ta_copyFrom_50_b
    rw [if_neg (by decide), h2, cx_q (by omega), ll_q, cpy_c (by omega), h2, cx_q (by omega), ll_q, cpy_c (by omega), cpy_c (by omega), h2, cx_q (by omega), ll_q, cpy_c (by omega), cpy_c (by omega), cpy_c (by omega), h2, cx_q (by omega), ll_q, cpy_c (by omega), cpy_c (by omega), cpy_c (by omega), cpy_c (by omega), h2, cx_q (by omega), ll_q, cpy_c (by omega), cpy_c (by omega), cpy_c (by omega), cpy_c (by omega), cpy_c (by omega), h2, cx_q (by omega), ll_q, cpy_c (by omega), cpy_c (by omega), cpy_c (by omega), cpy_c (by omega), cpy_c (by omega), cpy_c (by omega), h2, cx_q (by omega), ll_q, cpy_c (by omega), cpy_c (by omega), cpy_c (by omega), cpy_c (by omega), cpy_c (by omega), cpy_c (by omega), cpy_c (by omega), h2, cx_q (by omega), ll_q, cpy_c (by omega), cpy_c (by omega), cpy_c (by omega), cpy_c (by omega), cpy_c (by omega), cpy_c (by omega), cpy_c (by omega), cpy_c (by omega), h2, cx_q (by omega), ll_q]
  · rw [cpy_c (by omega), cpy_c (by omega), cpy_c (by omega), cpy_c (by omega), cpy_c (by omega), cpy_c (by omega), cpy_c (by omega), cpy_c (by omega), cpy_c (by omega)]
  · have hj' : (j : Int) < (n : Int) := by omega
    by_cases e8 : f = 8
    · subst e8
      show cpy _ (a + 12) (t + 12) n (t + 12) j = σ (a + 12) j
      rw [cpy_a hj', cpy_c (by omega), cpy_c (by omega), cpy_c (by omega), cpy_c (by omega), cpy_c (by omega), cpy_c (by omega), cpy_c (by omega), cpy_c (by omega)]
    rw [cpy_c (by omega)]
    by_cases e7 : f = 7
    · subst e7
      show cpy _ (a + 11) (t + 11) n (t + 11) j = σ (a + 11) j
      rw [cpy_a hj', cpy_c (by omega), cpy_c (by omega), cpy_c (by omega), cpy_c (by omega), cpy_c (by omega), cpy_c (by omega), cpy_c (by omega)]
    rw [cpy_c (by omega)]
    by_cases e6 : f = 6
    · subst e6
      show cpy _ (a + 10) (t + 10) n (t + 10) j = σ (a + 10) j
      rw [cpy_a hj', cpy_c (by omega), cpy_c (by omega), cpy_c (by omega), cpy_c (by omega), cpy_c (by omega), cpy_c (by omega)]
    rw [cpy_c (by omega)]
    by_cases e5 : f = 5
    · subst e5
      show cpy _ (a + 9) (t + 9) n (t + 9) j = σ (a + 9) j
      rw [cpy_a hj', cpy_c (by omega), cpy_c (by omega), cpy_c (by omega), cpy_c (by omega), cpy_c (by omega)]
    rw [cpy_c (by omega)]
    by_cases e4 : f = 4
    · subst e4
      show cpy _ (a + 8) (t + 8) n (t + 8) j = σ (a + 8) j
      rw [cpy_a hj', cpy_c (by omega), cpy_c (by omega), cpy_c (by omega), cpy_c (by omega)]
    rw [cpy_c (by omega)]
    by_cases e3 : f = 3
    · subst e3
      show cpy _ (a + 7) (t + 7) n (t + 7) j = σ (a + 7) j
      rw [cpy_a hj', cpy_c (by omega), cpy_c (by omega), cpy_c (by omega)]
    rw [cpy_c (by omega)]
    by_cases e2 : f = 2
    · subst e2
      show cpy _ (a + 6) (t + 6) n (t + 6) j = σ (a + 6) j
      rw [cpy_a hj', cpy_c (by omega), cpy_c (by omega)]
    rw [cpy_c (by omega)]
    by_cases e1 : f = 1
    · subst e1
      show cpy _ (a + 5) (t + 5) n (t + 5) j = σ (a + 5) j
      rw [cpy_a hj', cpy_c (by omega)]
    rw [cpy_c (by omega)]
    have e0 : f = 0 := by omega
    subst e0
    show cpy _ (a + 4) (t + 4) n (t + 4) j = σ (a + 4) j
    rw [cpy_a hj']
theorem cop2 (hd : a + 13 ≤ t ∨ t + 13 ≤ a) {k : Nat} (hk : k < 2) : ∃ σ', Ta_copyFrom_50_w t a (k : Int) σ = Ta_copyFrom_50_w t a ((k : Int) + 1) σ' ∧ (∀ c, (c < t + 1 ∨ t + 4 ≤ c) → σ' c = σ c) ∧ ∀ d, 1 ≤ d → d ≤ 3 → σ' (t + d) = up (σ (t + d)) k (σ (a + d) k) := by
  refine ⟨su (su (su σ (t + 1) k (σ (a + 1) k)) (t + 2) k (σ (a + 2) k)) (t + 3) k (σ (a + 3) k), wl_go ?_, fun c hc => by rw [su_c (by omega), su_c (by omega), su_c (by omega)], fun d h1 h2 => ?_⟩
  · show Ta_copyFrom_50_b t a (k : Int) σ = _
    unfold Ta_copyFrom_50_b
    rw [if_pos (by omega), ix_q (by omega) (by omega), ix_q (by omega) (by omega), ll_q, Int.toNat_natCast, ix_q (by omega) (by omega), ix_q (by omega) (by omega), ll_q, ix_q (by omega) (by omega), ix_q (by omega) (by omega), ll_q, wr_q (by omega) (by omega), ll_q, su_c (show a + 2 ≠ t + 1 by omega), su_c (show a + 3 ≠ t + 2 by omega), su_c (show a + 3 ≠ t + 1 by omega)]
  · have hd' : d = 1 ∨ d = 2 ∨ d = 3 := by omega
    rcases hd' with e | e | e <;> subst e
    · rw [su_c (by omega), su_c (by omega), su_s]
    · rw [su_c (by omega), su_s, su_c (by omega)]
    · rw [su_s, su_c (by omega), su_c (by omega)]
theorem copC (hd : a + 13 ≤ t ∨ t + 13 ≤ a) {n : Nat} (hn : n ≤ 60) (h2 : σ a 2 = n) : ∃ σ', Ta_copyFrom t a σ = some σ' ∧ (∀ c, (c < t ∨ t + 13 ≤ c) → σ' c = σ c) ∧ (∀ j, j < 6 → σ' t j = σ a j) ∧ (∀ d j, 1 ≤ d → d ≤ 3 → j < 2 → σ' (t + d) j = σ (a + d) j) ∧ ∀ f j, f < 9 → j < n → σ' (t + 4 + f) j = σ (a + 4 + f) j := by
  have hat : a ≠ t := by omega
  obtain ⟨σ6, e6⟩ : ∃ x, x = su (su (su (su (su (su σ t 0 (σ a 0)) t 1 (σ a 1)) t 2 (σ a 2)) t 3 (σ a 3)) t 4 (σ a 4)) t 5 (σ a 5) := ⟨_, rfl⟩
  have k1 : Ta_copyFrom t a σ = Ta_copyFrom_50_w t a 0 σ6 := by
    unfold Ta_copyFrom
    rw [ll_q, ll_q, ll_q, ll_q, ll_q, ll_q, e6]
    simp only [su_c hat]
  have k2 : ∀ c, c ≠ t → σ6 c = σ c := fun c hc => by rw [e6, su_c hc, su_c hc, su_c hc, su_c hc, su_c hc, su_c hc]
  have k3 : ∀ j, j < 6 → σ6 t j = σ a j := fun j hj => by
    rw [e6, su_s]
    by_cases e5 : j = 5
    · rw [e5, up_a]
    rw [up_n e5, su_s]
    by_cases e4 : j = 4
    · rw [e4, up_a]
    rw [up_n e4, su_s]
    by_cases e3 : j = 3
    · rw [e3, up_a]
    rw [up_n e3, su_s]
    by_cases e2 : j = 2
    · rw [e2, up_a]
    rw [up_n e2, su_s]
    by_cases e1 : j = 1
    · rw [e1, up_a]
    rw [up_n e1, su_s, show j = 0 by omega, up_a]
  obtain ⟨σ7, a1, a2, a3⟩ := cop2 (σ := σ6) hd (k := 0) (by decide)
  obtain ⟨σ8, b1', b2', b3'⟩ := cop2 (σ := σ7) hd (k := 1) (by decide)
  obtain ⟨σ9, c1, c2, c3⟩ := cop3 (σ := σ8) hd hn (by rw [b2' t (by omega), a2 t (by omega), k3 2 (by decide)]; exact h2)
  refine ⟨σ9, ?_, fun c hc => ?_, fun j hj => ?_, fun d j h1 h2 h3 => ?_, fun f j hf hj => ?_⟩
  · rw [k1]
    exact a1.trans (b1'.trans c1)
  · rw [c2 c (by omega), b2' c (by omega), a2 c (by omega), k2 c (by omega)]
  · rw [c2 t (by omega), b2' t (by omega), a2 t (by omega), k3 j hj]
  · rw [c2 (t + d) (by omega), b3' d h1 h2, a3 d h1 h2]
    have x1 : σ6 (a + d) = σ (a + d) := k2 _ (by omega)
    have x2 : σ7 (a + d) = σ (a + d) := by rw [a2 _ (by omega)]; exact x1
    rw [x1, x2]
    by_cases e : j = 1
    · rw [e, up_a]
    · rw [up_n e, show j = 0 by omega, up_a]
  · rw [c3 f j hf hj, b2' _ (by omega), a2 _ (by omega), k2 _ (by omega)]
/-- a copied talk tells the same -/
theorem TR.cop {w : Nat → Int} {σ' : Sg} (h : TR a σ w) {n : Nat} (hn : w 3 = n) (h1 : ∀ j, j < 6 → σ' t j = σ a j) (h2 : ∀ d j, 1 ≤ d → d ≤ 3 → j < 2 → σ' (t + d) j = σ (a + d) j) (h3 : ∀ f j, f < 9 → j < n → σ' (t + 4 + f) j = σ (a + 4 + f) j) : TR t σ' w := by
  obtain ⟨q1, q2, q3, q4, q5, q6, q7, q8⟩ := h
  unfold TR
  rw [h1 0 (by decide), h1 1 (by decide), h1 2 (by decide), h1 3 (by decide), h1 4 (by decide), h1 5 (by decide)]
  refine ⟨q1, q2, q3, q4, q5, q6, fun j hj => ?_, fun i f hi hf => ?_⟩
  · rw [h2 1 j (by decide) (by decide) hj, h2 2 j (by decide) (by decide) hj]; exact q7 j hj
  · rw [h3 f i hf (by omega)]; exact q8 i f hi hf
/-- the reference lays the talk aside -/
theorem asM : ∃ τ', Mo_laysAside τ = some τ' ∧ (∀ j, j < 548 → τ' 176 j = τ 173 j) ∧ (∀ c, c ≠ 172 → c ≠ 176 → τ' c = τ c) ∧ τ' 172 26 = 0 ∧ τ' 172 27 = -1 ∧ ∀ j, j ≠ 26 → j ≠ 27 → τ' 172 j = τ 172 j := by
  have key : ∀ (m k : Nat) (τ' : Sg), k + m = 548 → (∀ j, j < k → τ' 176 j = τ 173 j) → (∀ c, c ≠ 176 → τ' c = τ c) → ∃ τ2, Mo_laysAside_2_w (k : Int) τ' = some τ2 ∧ (∀ j, j < 548 → τ2 176 j = τ 173 j) ∧ (∀ c, c ≠ 172 → c ≠ 176 → τ2 c = τ c) ∧ τ2 172 26 = 0 ∧ τ2 172 27 = -1 ∧ ∀ j, j ≠ 26 → j ≠ 27 → τ2 172 j = τ 172 j := by
    intro m
    induction m with
    | zero =>
      intro k τ' hk h1 h2
      refine ⟨su (su τ' 172 26 0) 172 27 (-1), wl_end ?_, fun j hj => ?_, fun c a b => ?_, ?_, ?_, fun j a b => ?_⟩
      · show Mo_laysAside_2_b (k : Int) τ' = _
        unfold Mo_laysAside_2_b
        rw [if_neg (by omega), ll_q, ll_q]
      · rw [su_c (by decide), su_c (by decide)]; exact h1 j (by omega)
      · rw [su_c a, su_c a, h2 c b]
      · rw [su_s, up_n (by decide), su_s, up_a]
      · rw [su_s, up_a]
      · rw [su_s, up_n b, su_s, up_n a, h2 172 (by decide)]
    | succ m ih =>
      intro k τ' hk h1 h2
      obtain ⟨τ2, g1, g2⟩ := ih (k + 1) (su τ' 176 k (τ 173 k)) (by omega) (fun j hj => by
        rw [su_s]
        by_cases e : j = k
        · rw [e, up_a]
        · rw [up_n e]; exact h1 j (by omega)) (fun c hc => by rw [su_c hc, h2 c hc])
      refine ⟨τ2, (wl_go ?_).trans g1, g2⟩
      show Mo_laysAside_2_b (k : Int) τ' = _
      unfold Mo_laysAside_2_b
      rw [if_pos (by omega), ix_q (by omega) (by omega), ix_q (by omega) (by omega), ll_q, wr_q (by omega) (by omega), ll_q, Int.toNat_natCast, h2 173 (by decide)]
      rfl
  exact key 548 0 τ (by omega) (fun j hj => (by omega)) (fun _ _ => rfl)
/-- and puts it back -/
theorem pbM : ∃ τ', Mo_putsBack τ = some τ' ∧ (∀ j, j < 548 → τ' 173 j = τ 176 j) ∧ (∀ j, 548 ≤ j → τ' 173 j = τ 173 j) ∧ ∀ c, c ≠ 173 → τ' c = τ c := by
  have key : ∀ (m k : Nat) (τ' : Sg), k + m = 548 → (∀ j, j < k → τ' 173 j = τ 176 j) → (∀ j, 548 ≤ j → τ' 173 j = τ 173 j) → (∀ c, c ≠ 173 → τ' c = τ c) → ∃ τ2, Mo_putsBack_2_w (k : Int) τ' = some τ2 ∧ (∀ j, j < 548 → τ2 173 j = τ 176 j) ∧ (∀ j, 548 ≤ j → τ2 173 j = τ 173 j) ∧ ∀ c, c ≠ 173 → τ2 c = τ c := by
    intro m
    induction m with
    | zero =>
      intro k τ' hk h1 h2 h3
      refine ⟨τ', wl_end ?_, fun j hj => h1 j (by omega), h2, h3⟩
      show Mo_putsBack_2_b (k : Int) τ' = _
      unfold Mo_putsBack_2_b
      rw [if_neg (by omega)]
    | succ m ih =>
      intro k τ' hk h1 h2 h3
      obtain ⟨τ2, g1, g2⟩ := ih (k + 1) (su τ' 173 k (τ 176 k)) (by omega) (fun j hj => by
        rw [su_s]
        by_cases e : j = k
        · rw [e, up_a]
        · rw [up_n e]; exact h1 j (by omega)) (fun j hj => by rw [su_s, up_n (by omega)]; exact h2 j hj) (fun c hc => by rw [su_c hc, h3 c hc])
      refine ⟨τ2, (wl_go ?_).trans g1, g2⟩
      show Mo_putsBack_2_b (k : Int) τ' = _
      unfold Mo_putsBack_2_b
      rw [if_pos (by omega), ix_q (by omega) (by omega), ix_q (by omega) (by omega), ll_q, wr_q (by omega) (by omega), ll_q, Int.toNat_natCast, h3 176 (by decide)]
      rfl
  exact key 548 0 τ (by omega) (fun j hj => (by omega)) (fun _ _ => rfl) (fun _ _ => rfl)
end Copy
