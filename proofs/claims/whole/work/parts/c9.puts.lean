/-! text: what was read is put where it counts -/
section Puts
variable {σ τ : Sg} {t a : Nat}
theorem shD (hd : a + 3 ≤ t ∨ t + 3 ≤ a) {n1 n2 n3 n4 : Nat} (l1 : ln (t + 1) = n1) (l2 : ln (a + 1) = n3) (l3 : ln (t + 2) = n2) (l4 : ln (a + 2) = n4) (h13 : n1 ≤ n3) (h24 : n2 ≤ n4) (h2 : 0 ≤ σ a 2) (h3 : 0 ≤ σ a 3) : ∃ σ', Sh_copyFrom t a σ = some σ' ∧ (σ' t 0 = σ a 0 ∧ σ' t 1 = σ a 1 ∧ σ' t 2 = min (σ a 2) n1 ∧ σ' t 3 = min (σ a 3) n2) ∧ (∀ j : Nat, (j : Int) < σ a 2 → j < n1 → σ' (t + 1) j = σ (a + 1) j) ∧ (∀ j : Nat, (j : Int) < σ a 3 → j < n2 → σ' (t + 2) j = σ (a + 2) j) ∧ ∀ c, (c < t ∨ t + 3 ≤ c) → σ' c = σ c := by
  have hat : a ≠ t := by omega
  obtain ⟨σ6, e6⟩ : ∃ x, x = su (su (su (su σ t 0 (σ a 0)) t 1 (σ a 1)) t 2 (min (σ a 2) n1)) t 3 (min (σ a 3) n2) := ⟨_, rfl⟩
  have k2 : ∀ c, c ≠ t → σ6 c = σ c := fun c hc => by rw [e6, su_c hc, su_c hc, su_c hc, su_c hc]
  have k30 : σ6 t 0 = σ a 0 := by rw [e6, su_s, up_n (by decide), su_s, up_n (by decide), su_s, up_n (by decide), su_s, up_a]
  have k31 : σ6 t 1 = σ a 1 := by rw [e6, su_s, up_n (by decide), su_s, up_n (by decide), su_s, up_a]
  have k32 : σ6 t 2 = min (σ a 2) n1 := by rw [e6, su_s, up_n (by decide), su_s, up_a]
  have k33 : σ6 t 3 = min (σ a 3) n2 := by rw [e6, su_s, up_a]
  refine ⟨cpy (cpy σ6 (a + 1) (t + 1) (min (σ a 2) n1)) (a + 2) (t + 2) (min (σ a 3) n2), ?_, ⟨?_, ?_, ?_, ?_⟩, fun j a1 a2 => ?_, fun j a1 a2 => ?_, fun c hc => ?_⟩
  · have k3 : Sh_copyFrom t a σ = cx (σ6 t 2) (ln (a + 1) : Int) (ln (t + 1) : Int) (ll (cpy σ6 (a + 1) (t + 1) (σ6 t 2)) fun σ7 => cx (σ7 t 3) (ln (a + 2) : Int) (ln (t + 2) : Int) (ll (cpy σ7 (a + 2) (t + 2) (σ7 t 3)) fun σ8 => some σ8)) := by
      unfold Sh_copyFrom
      rw [ll_q, ll_q, su_c hat, su_c hat, min_q, b1_q, ll_q, su_c hat, su_c hat, su_c hat, min_q, b1_q, ll_q, l1, l3, e6]
    rw [k3, k32, l1, l2, l3, l4, cx_q (by omega), ll_q, cpy_c (by omega), k33, cx_q (by omega), ll_q]
  · rw [cpy_c (by omega), cpy_c (by omega)]; exact k30
  · rw [cpy_c (by omega), cpy_c (by omega)]; exact k31
  · rw [cpy_c (by omega), cpy_c (by omega)]; exact k32
  · rw [cpy_c (by omega), cpy_c (by omega)]; exact k33
  · rw [cpy_c (by omega), cpy_a (by omega), k2 _ (by omega)]
  · rw [cpy_a (by omega), cpy_c (by omega), k2 _ (by omega)]
  · rw [cpy_c (by omega), cpy_c (by omega), k2 c (by omega)]
/-- rows -/
theorem puR {many pl each R : Nat} (hm : many < pl) (hpl : pl + each * R ≤ 2217) (hR : each * R ≤ 80) (he : each ≤ 6) (hR16 : R ≤ 16) (h15 : τ 172 15 = R) : ∃ τ', Mo_puts (many : Int) (pl : Int) (each : Int) τ = some ((R : Int), τ') ∧ τ' 173 many = R ∧ (∀ j, j < each * R → τ' 173 (pl + j) = τ 179 j) ∧ (∀ j, j ≠ many → (j < pl ∨ pl + each * R ≤ j) → τ' 173 j = τ 173 j) ∧ ∀ c, c ≠ 173 → τ' c = τ c := by
  have em : (each : Int) * (R : Int) = ((each * R : Nat) : Int) := by simp
  have key : ∀ (m k : Nat) (τ1 : Sg), k + m = each * R → (∀ j, j < k → τ1 173 (pl + j) = τ 179 j) → τ1 173 many = R → (∀ j, j ≠ many → (j < pl ∨ pl + k ≤ j) → τ1 173 j = τ 173 j) → (∀ c, c ≠ 173 → τ1 c = τ c) → ∃ τ', Mo_puts_13_w (each : Int) (pl : Int) (k : Int) τ1 = some ((R : Int), τ') ∧ τ' 173 many = R ∧ (∀ j, j < each * R → τ' 173 (pl + j) = τ 179 j) ∧ (∀ j, j ≠ many → (j < pl ∨ pl + each * R ≤ j) → τ' 173 j = τ 173 j) ∧ ∀ c, c ≠ 173 → τ' c = τ c := by
    intro m
    induction m with
    | zero =>
      intro k τ1 hk h1 h2 h3 h4
      have ek : k = each * R := by omega
      subst ek
      refine ⟨τ1, wl_end ?_, h2, h1, h3, h4⟩
      show Mo_puts_13_b (each : Int) (pl : Int) _ τ1 = _
      unfold Mo_puts_13_b
      rw [h4 172 (by decide), h15, em, wr_q (by omega) (by omega), if_neg (by omega)]
    | succ m ih =>
      intro k τ1 hk h1 h2 h3 h4
      obtain ⟨τ', g1, g2⟩ := ih (k + 1) (su τ1 173 (pl + k) (τ 179 k)) (by omega) (fun j hj => by
        rw [su_s]
        by_cases e : j = k
        · rw [e, up_a]
        · rw [up_n (by omega)]; exact h1 j (by omega)) (by rw [su_s, up_n (by omega)]; exact h2) (fun j a b => by rw [su_s, up_n (by omega)]; exact h3 j a (by omega)) (fun c hc => by rw [su_c hc, h4 c hc])
      refine ⟨τ', (wl_go ?_).trans g1, g2⟩
      show Mo_puts_13_b (each : Int) (pl : Int) (k : Int) τ1 = _
      unfold Mo_puts_13_b
      rw [h4 172 (by decide), h15, em, wr_q (n := ((each * R : Nat) : Int)) (by omega) (by omega), if_pos (by omega), ix_q (by omega) (by omega), ix_q (by omega) (by omega), ll_q, wr_q (by omega) (by omega), ll_q, show ((pl : Int) + (k : Int)).toNat = pl + k by omega, Int.toNat_natCast, h4 179 (by decide)]
      rfl
  obtain ⟨τ', g1, g2, g3, g4, g5⟩ := key (each * R) 0 (su τ 173 many (R : Int)) (by omega) (fun j hj => (by omega)) (by rw [su_s, up_a]) (fun j a _ => by rw [su_s, up_n a]) (fun c hc => su_c hc)
  refine ⟨τ', ?_, g2, g3, g4, g5⟩
  unfold Mo_puts
  rw [ix_q (by omega) (by omega), ll_q, Int.toNat_natCast, h15]
  exact g1
/-- the law -/
theorem puLaw {L s : Nat} (hL : L ≤ 16) (hs : s ≤ 400) (h13 : τ 172 13 = L) (h14 : τ 172 14 = s) : ∃ τ', Mo_putsLaw τ = some ((L : Int), τ') ∧ τ' 173 550 = L ∧ (∀ l, l < L → τ' 173 (1333 + l) = τ 177 (4 * l) ∧ τ' 173 (1349 + l) = τ 177 (4 * l + 1) ∧ τ' 173 (1365 + l) = τ 177 (4 * l + 2) ∧ τ' 173 (1381 + l) = τ 177 (4 * l + 3)) ∧ (∀ j, j < 2 * s → τ' 173 (1397 + j) = τ 178 j) ∧ (∀ j, j ≠ 550 → j < 1333 → τ' 173 j = τ 173 j) ∧ ∀ c, c ≠ 173 → τ' c = τ c := by
  have k108 : ∀ (m k : Nat) (τ1 : Sg), k + m = 2 * s → (∀ j, j < k → τ1 173 (1397 + j) = τ 178 j) → (∀ c, c ≠ 173 → τ1 c = τ c) → ∃ τ', Mo_putsLaw_108_w (k : Int) τ1 = some (.inr ((L : Int), τ')) ∧ (∀ j, j < 2 * s → τ' 173 (1397 + j) = τ 178 j) ∧ (∀ j, j < 1397 → τ' 173 j = τ1 173 j) ∧ ∀ c, c ≠ 173 → τ' c = τ c := by
    intro m
    induction m with
    | zero =>
      intro k τ1 hk h1 h2
      refine ⟨τ1, wl_end ?_, fun j hj => h1 j (by omega), fun _ _ => rfl, h2⟩
      show Mo_putsLaw_108_b (k : Int) τ1 = _
      unfold Mo_putsLaw_108_b
      rw [h2 172 (by decide), h14, wr_q (by omega) (by omega), if_neg (by omega), h13]
    | succ m ih =>
      intro k τ1 hk h1 h2
      obtain ⟨τ', g1, g2, g3, g4⟩ := ih (k + 1) (su τ1 173 (1397 + k) (τ 178 k)) (by omega) (fun j hj => by
        rw [su_s]
        by_cases e : j = k
        · rw [e, up_a]
        · rw [up_n (by omega)]; exact h1 j (by omega)) (fun c hc => by rw [su_c hc, h2 c hc])
      refine ⟨τ', (wl_go ?_).trans g1, g2, fun j hj => by rw [g3 j hj, su_s, up_n (by omega)], g4⟩
      show Mo_putsLaw_108_b (k : Int) τ1 = _
      unfold Mo_putsLaw_108_b
      rw [h2 172 (by decide), h14, wr_q (n := 2 * (s : Int)) (by omega) (by omega), if_pos (by omega), ix_q (by omega) (by omega), ix_q (by omega) (by omega), ll_q, wr_q (by omega) (by omega), ll_q, show (1397 + (k : Int)).toNat = 1397 + k by omega, Int.toNat_natCast, h2 178 (by decide)]
      rfl
  have k14 : ∀ (m k : Nat) (τ1 : Sg), k + m = L → (∀ l, l < k → τ1 173 (1333 + l) = τ 177 (4 * l) ∧ τ1 173 (1349 + l) = τ 177 (4 * l + 1) ∧ τ1 173 (1365 + l) = τ 177 (4 * l + 2) ∧ τ1 173 (1381 + l) = τ 177 (4 * l + 3)) → (∀ c, c ≠ 173 → τ1 c = τ c) → ∃ τ', Mo_putsLaw_14_w (k : Int) τ1 = some ((L : Int), τ') ∧ (∀ l, l < L → τ' 173 (1333 + l) = τ 177 (4 * l) ∧ τ' 173 (1349 + l) = τ 177 (4 * l + 1) ∧ τ' 173 (1365 + l) = τ 177 (4 * l + 2) ∧ τ' 173 (1381 + l) = τ 177 (4 * l + 3)) ∧ (∀ j, j < 2 * s → τ' 173 (1397 + j) = τ 178 j) ∧ (∀ j, j < 1333 → τ' 173 j = τ1 173 j) ∧ ∀ c, c ≠ 173 → τ' c = τ c := by
    intro m
    induction m with
    | zero =>
      intro k τ1 hk h1 h2
      obtain ⟨τ', g1, g2, g3, g4⟩ := k108 (2 * s) 0 τ1 (by omega) (fun j hj => (by omega)) h2
      refine ⟨τ', wl_end ?_, fun l hl => ?_, g2, fun j hj => g3 j (by omega), g4⟩
      · show Mo_putsLaw_14_b (k : Int) τ1 = _
        unfold Mo_putsLaw_14_b
        rw [h2 172 (by decide), h13, if_neg (by omega)]
        exact g1
      · rw [g3 _ (by omega), g3 _ (by omega), g3 _ (by omega), g3 _ (by omega)]; exact h1 l (by omega)
    | succ m ih =>
      intro k τ1 hk h1 h2
      obtain ⟨τ2, e2⟩ : ∃ x, x = su (su (su (su τ1 173 (1333 + k) (τ 177 (4 * k))) 173 (1349 + k) (τ 177 (4 * k + 1))) 173 (1365 + k) (τ 177 (4 * k + 2))) 173 (1381 + k) (τ 177 (4 * k + 3)) := ⟨_, rfl⟩
      have o2 : ∀ j, j ≠ 1333 + k → j ≠ 1349 + k → j ≠ 1365 + k → j ≠ 1381 + k → τ2 173 j = τ1 173 j := fun j a b c d => by rw [e2, su_s, up_n d, su_s, up_n c, su_s, up_n b, su_s, up_n a]
      obtain ⟨τ', g1, g2, g3, g4, g5⟩ := ih (k + 1) τ2 (by omega) (fun l hl => by
        by_cases e : l = k
        · subst e
          refine ⟨?_, ?_, ?_, ?_⟩
          · rw [e2, su_s, up_n (by omega), su_s, up_n (by omega), su_s, up_n (by omega), su_s, up_a]
          · rw [e2, su_s, up_n (by omega), su_s, up_n (by omega), su_s, up_a]
          · rw [e2, su_s, up_n (by omega), su_s, up_a]
          · rw [e2, su_s, up_a]
        · rw [o2 _ (by omega) (by omega) (by omega) (by omega), o2 _ (by omega) (by omega) (by omega) (by omega), o2 _ (by omega) (by omega) (by omega) (by omega), o2 _ (by omega) (by omega) (by omega) (by omega)]
          exact h1 l (by omega)) (fun c hc => by rw [e2, su_c hc, su_c hc, su_c hc, su_c hc, h2 c hc])
      refine ⟨τ', (wl_go ?_).trans g1, g2, g3, fun j hj => by rw [g4 j hj, o2 j (by omega) (by omega) (by omega) (by omega)], g5⟩
      show Mo_putsLaw_14_b (k : Int) τ1 = _
      unfold Mo_putsLaw_14_b
      have e177 : τ1 177 = τ 177 := h2 177 (by decide)
      rw [h2 172 (by decide), h13, if_pos (by omega), ix_q (by omega) (by omega), ix_q (by omega) (by omega), ll_q, ix_q (by omega) (by omega), ix_q (by omega) (by omega), ll_q, ix_q (by omega) (by omega), ix_q (by omega) (by omega), ll_q, ix_q (by omega) (by omega), ix_q (by omega) (by omega), ll_q, wr_q (by omega) (by omega), ll_q]
      simp only [su_c (show (177 : Nat) ≠ 173 by decide), e177]
      rw [show (1333 + (k : Int)).toNat = 1333 + k by omega, show (1349 + (k : Int)).toNat = 1349 + k by omega, show (1365 + (k : Int)).toNat = 1365 + k by omega, show (1381 + (k : Int)).toNat = 1381 + k by omega, show (4 * (k : Int)).toNat = 4 * k by omega, show (4 * (k : Int) + 1).toNat = 4 * k + 1 by omega, show (4 * (k : Int) + 2).toNat = 4 * k + 2 by omega, show (4 * (k : Int) + 3).toNat = 4 * k + 3 by omega, ← e2]
      rfl
  obtain ⟨τ', g1, g2, g3, g4, g5⟩ := k14 L 0 (su τ 173 550 (L : Int)) (by omega) (fun l hl => (by omega)) (fun c hc => su_c hc)
  refine ⟨τ', ?_, by rw [g4 550 (by decide), su_s, up_a], g2, g3, fun j a b => by rw [g4 j b, su_s, up_n a], g5⟩
  unfold Mo_putsLaw
  rw [h13, ll_q]
  exact g1
end Puts
