/-! awake, pauses, rests -/
def rdF (w : Nat → Int) (one hour : Int) : Int := if act w one hour < 2 then 1 else 0
theorem rdF_z (w : Nat → Int) (one hour : Int) : rdF w one hour = 0 ∨ rdF w one hour = 1 := by unfold rdF; split <;> simp
section More
variable {σ τ : Sg}
theorem readsC {w : Nat → Int} (h : HR (σ 20) (σ 21) w) {one hour : Int} (hh : 0 ≤ hour ∧ hour ≤ 23) : Wo_reads 1 one hour σ = some (rdF w one hour) := by
  unfold Wo_reads rdF
  rw [actC rfl h hh, b1_q]
  by_cases c : act w one hour < 2
  · rw [if_pos c, if_neg (by omega)]
  · rw [if_neg c, if_pos (by omega)]
theorem readsM {s c : Nat → Int} (h : HR s c (τ 173)) {one hour : Int} (hh : 0 ≤ hour ∧ hour ≤ 23) : Mo_canRead one hour τ = some (rdF (τ 173) one hour) := by
  unfold Mo_canRead rdF
  rw [actM h hh, b1_q]
  split <;> rfl
theorem p_awake (h : Inv σ τ) (a b : Int) : Same1 (Td_awake a b σ) (Mo_awake a b τ) := by
  obtain ⟨⟨hT, hW, hM, hS, hB⟩, hP, hI, hR⟩ := h
  have hH : HR (σ 20) (σ 21) (τ 173) := hS.2.1
  have hh := hour_in hW.1.1
  unfold Td_awake Mo_awake
  rw [within_q, within_q, isIn_q, isIn_q]
  simp only [b1_q]
  by_cases ha : 1 ≤ a ∧ a ≤ 48
  · rw [if_pos ha, i10, i10]
    by_cases hb : 0 ≤ b ∧ b ≤ 2
    · rw [if_pos hb, i10, i10]
      have key := wl_two (B := fun p : Int × Int × Int × Int × Int => Td_awake_35_b a σ b p.1 p.2.1 p.2.2.1 p.2.2.2.1 p.2.2.2.2) (B' := fun p : Int × Int × Int × Int × Int => Mo_awake_35_b a τ b p.1 p.2.1 p.2.2.1 p.2.2.2.1 p.2.2.2.2) (fun p => (a - p.2.2.2.2).toNat) (fun p q => p = q ∧ (0 ≤ p.2.2.2.2 ∧ p.2.2.2.2 ≤ a) ∧ (0 ≤ p.1 ∧ p.1 ≤ p.2.2.2.2) ∧ (0 ≤ p.2.2.1 ∧ p.2.2.1 ≤ p.2.2.2.2)) (fun r r' => r = r') (by
        rintro ⟨x, y, z, u, k⟩ ⟨x', y', z', u', k'⟩ ⟨e, h1, h2, h3⟩
        cases e
        dsimp only at h1 h2 h3 ⊢
        unfold Td_awake_35_b Mo_awake_35_b Mo_hourNow
        rw [hour_q hT, b1_q, b1_q]
        generalize hge : Int.tmod (Int.tdiv (τ 173 0) 60) 24 = hr at hh ⊢
        by_cases hk : k < a
        · right
          have hm : 0 ≤ Int.tmod (hr + k) 24 ∧ Int.tmod (hr + k) 24 ≤ 23 := by
            rw [Int.tmod_eq_emod_of_nonneg (by omega)]; omega
          rw [if_pos hk, if_pos hk, wr_q (n := hr + k) (by omega) (by omega), ll_q, ll_q, readsC hH hm, readsC hH hm, readsM hH hm, readsM hH hm]
          simp only [b1_q]
          have fin : ∀ q : Int, q = 0 ∨ q = 1 → ∃ c c', (b1 (if q = 0 then some 0 else some (wr (z + 1))) fun (t19 : Int) => b1 (if q = 0 then some 0 else some 1) fun (t21 : Int) => ll (wr (x + t21)) fun v3_22 => b1 (if q = 0 then some y else if y = (-1) then some k else some y) fun (t24 : Int) => b1 (Jm_max u t19) fun r26 => ll (wr (k + 1)) fun v7_27 => (some (Sum.inl (v3_22, t24, t19, r26, v7_27)) : Option ((Int × Int × Int × Int × Int) ⊕ Int))) = some (Sum.inl c) ∧
              (b1 (if q = 0 then some 0 else some (wr (z + 1))) fun (t19 : Int) => b1 (Mo_greater u t19) fun r20 => b1 (if q = 0 then some y else if y = (-1) then some k else some y) fun (t22 : Int) => if q = 0 then ll (wr (x + 0)) fun v3_25 => ll (wr (k + 1)) fun v7_26 => (some (Sum.inl (v3_25, t22, t19, r20, v7_26)) : Option ((Int × Int × Int × Int × Int) ⊕ Int)) else ll (wr (x + 1)) fun v3_27 => ll (wr (k + 1)) fun v7_28 => some (Sum.inl (v3_27, t22, t19, r20, v7_28))) = some (Sum.inl c') ∧
              (c = c' ∧ (0 ≤ c.2.2.2.2 ∧ c.2.2.2.2 ≤ a) ∧ (0 ≤ c.1 ∧ c.1 ≤ c.2.2.2.2) ∧ (0 ≤ c.2.2.1 ∧ c.2.2.1 ≤ c.2.2.2.2)) ∧ (a - c.2.2.2.2).toNat < (a - k).toNat := by
            intro q hq
            rcases hq with rfl | rfl
            · simp only [i00, b1_q, ll_q, max_q, greater_q, Int.add_zero]
              have ex : wr (x + 0) = x := by rw [Int.add_zero]; exact wr_q (by omega) (by omega)
              try rw [ex]
              try rw [wr_q (n := x) (by omega) (by omega)]
              rw [wr_q (n := k + 1) (by omega) (by omega)]
              exact ⟨_, _, rfl, rfl, ⟨by first | rfl | exact Prod.ext ex rfl | simp [ex], by dsimp only; omega, by dsimp only; omega, by dsimp only; omega⟩, by dsimp only; omega⟩
            · simp only [i10, b1_q, ll_q, max_q, greater_q]
              rw [wr_q (n := x + 1) (by omega) (by omega), wr_q (n := k + 1) (by omega) (by omega), wr_q (n := z + 1) (by omega) (by omega)]
              by_cases hy : y = -1
              · rw [if_pos hy]
                exact ⟨_, _, rfl, rfl, ⟨rfl, by dsimp only; omega, by dsimp only; omega, by dsimp only; omega⟩, by dsimp only; omega⟩
              · rw [if_neg hy]
                exact ⟨_, _, rfl, rfl, ⟨rfl, by dsimp only; omega, by dsimp only; omega, by dsimp only; omega⟩, by dsimp only; omega⟩
          rcases rdF_z (τ 173) 0 (Int.tmod (hr + k) 24) with z0 | z0 <;> rcases rdF_z (τ 173) 1 (Int.tmod (hr + k) 24) with z1 | z1 <;> rw [z0, z1]
          · simp only [i00, b1_q]; exact fin 0 (Or.inl rfl)
          · simp only [i00, b1_q]; exact fin 0 (Or.inl rfl)
          · simp only [i00, i10, b1_q]; exact fin 0 (Or.inl rfl)
          · simp only [i10, b1_q]; exact fin 1 (Or.inr rfl)
        · left
          rw [if_neg hk, if_neg hk]
          split
          · exact ⟨_, _, rfl, rfl, rfl⟩
          · split <;> exact ⟨_, _, rfl, rfl, rfl⟩) (0, -1, 0, 0, 0) (0, -1, 0, 0, 0) ⟨rfl, by dsimp only; omega, by dsimp only; omega, by dsimp only; omega⟩
      obtain ⟨r, r', h1, h2, h3⟩ := key
      exact ⟨r, h1, by rw [h3]; exact h2⟩
    · rw [if_neg hb, i00, i00]; exact ⟨_, rfl, rfl⟩
  · rw [if_neg ha, i00, i00]; exact ⟨_, rfl, rfl⟩
/-! answers and their pauses -/
theorem isAnswerM (hW : WF (τ 173)) {i : Nat} (hi : (i : Int) < τ 173 3) : Mo_isAnswer (i : Int) τ = some (if mW (τ 173) i 6 ≠ -1 ∧ mW (τ 173) i 7 = 0 then 1 else 0) := by
  have h60 := hW.2.2.1
  obtain ⟨-, -, -, -, -, -, -, m7, -⟩ := hW.2.2.2.2 i hi
  unfold Mo_isAnswer
  rw [of_6 (by omega), b1_q, isBack_q (by omega) m7, b1_q]
  by_cases h6 : mW (τ 173) i 6 = -1
  · rw [if_pos h6, if_neg (fun z => z.1 h6)]
  · rw [if_neg h6]
    by_cases h7 : mW (τ 173) i 7 = 0
    · rw [if_pos h7, if_pos ⟨h6, h7⟩]
    · rw [if_neg h7, if_neg (fun z => h7 z.2)]
theorem isAnswerC {t : Nat} {w : Nat → Int} (hT : TR t σ w) (hW : WF w) {i : Nat} (hi : (i : Int) < w 3) : Ta_isAnswer t (i : Int) σ = some (if mW w i 6 ≠ -1 ∧ mW w i 7 = 0 then 1 else 0) := by
  have h60 := hW.2.2.1
  obtain ⟨-, -, -, -, -, -, m6, m7, -⟩ := hW.2.2.2.2 i hi
  obtain ⟨g0, g1, g2, g3, g4, g5, g6, g7, g8⟩ := hT.g hi
  unfold Ta_isAnswer
  rw [ix_q (by omega) (by omega), ix_q (by omega) (by omega), Int.toNat_natCast, g6, g7, has_q hT, b1_q]
  by_cases h7 : mW w i 7 = 0
  · rw [if_pos h7]
    rcases m6 with m6 | ⟨k, k1, k2, -⟩
    · rw [if_neg (c := 0 ≤ mW w i 6 ∧ _) (by omega), i00, if_neg (fun z => z.1 m6)]
    · rw [if_pos (c := 0 ≤ mW w i 6 ∧ _) (by omega), i10, if_pos ⟨by omega, h7⟩]
  · rw [if_neg h7, if_neg (fun z => h7 z.2)]
/-- how long the answer i took -/
def psF (w : Nat → Int) (i : Nat) : Int := mW w i 1 - mW w (mW w i 6).toNat 1
theorem psF_in {w : Nat → Int} (hW : WF w) {i : Nat} (hi : (i : Int) < w 3) (h6 : mW w i 6 ≠ -1) : (0 ≤ mW w i 6 ∧ mW w i 6 < i) ∧ 0 ≤ psF w i ∧ psF w i ≤ w 0 := by
  have h60 := hW.2.2.1
  obtain ⟨-, m1, -, -, -, -, m6, m7, -, m9⟩ := hW.2.2.2.2 i hi
  rcases m6 with m6 | ⟨k, k1, k2, -⟩
  · exact absurd m6 h6
  · have e : (mW w i 6).toNat = k := by omega
    have q1 := (hW.2.2.2.2 k (by omega)).2.1
    have q2 := m9 k k1
    unfold psF; rw [e]
    omega
theorem pauseM (hW : WF (τ 173)) {i : Nat} (hi : (i : Int) < τ 173 3) (h6 : mW (τ 173) i 6 ≠ -1) : Mo_pauseOf (i : Int) τ = some (psF (τ 173) i) := by
  have h60 := hW.2.2.1
  have h0 := hW.1
  obtain ⟨q1, q2⟩ := psF_in hW hi h6
  unfold Mo_pauseOf
  have e : (mW (τ 173) i 6) = ((mW (τ 173) i 6).toNat : Int) := by omega
  rw [of_1 (by omega), of_6 (by omega), b1_q, b1_q, e, of_1 (by omega), b1_q]
  unfold psF at q2 ⊢
  rw [wr_q (by omega) (by omega)]
theorem pauseC {t : Nat} {w : Nat → Int} (hT : TR t σ w) (hW : WF w) {i : Nat} (hi : (i : Int) < w 3) (h6 : mW w i 6 ≠ -1) : Ta_pauseOf t (i : Int) σ = some (psF w i) := by
  have h60 := hW.2.2.1
  have h0 := hW.1
  obtain ⟨q1, q2⟩ := psF_in hW hi h6
  obtain ⟨g0, g1, g2, g3, g4, g5, g6, g7, g8⟩ := hT.g hi
  obtain ⟨k0, k1, -⟩ := hT.g (i := (mW w i 6).toNat) (by omega)
  unfold Ta_pauseOf
  rw [ix_q (by omega) (by omega), ix_q (by omega) (by omega), ix_q (by omega) (by omega), Int.toNat_natCast, g6, g1, has_q hT, b1_q, if_pos (c := 0 ≤ mW w i 6 ∧ mW w i 6 < w 3) (by omega), i10, ix_q (by omega) (by omega), k1]
  unfold psF at q2 ⊢
  rw [wr_q (by omega) (by omega)]
end More
