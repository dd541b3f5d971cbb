/-! thread: the class lays its row bare first -/
section Thread2
variable {σ τ : Sg}
theorem thZ {n : Nat} (hn60 : n ≤ 60) : ∀ (m k : Nat) (σ : Sg), k + m = n → σ 2 2 = n → (∀ j, j < k → σ 167 j = 0) → ∃ σ', Gl_dearest_2_w 2 (k : Int) σ = Gl_dearest_2_w 2 (n : Int) σ' ∧ (∀ j, j < n → σ' 167 j = 0) ∧ ∀ c, c ≠ 167 → σ' c = σ c
  | 0, k, σ, hk, h2, hz => ⟨σ, by rw [show k = n by omega], fun j hj => hz j (by omega), fun _ _ => rfl⟩
  | m + 1, k, σ, hk, h2, hz => by
    obtain ⟨σ', e1, e2, e3⟩ := thZ hn60 m (k + 1) (su σ 167 k 0) (by omega) (by rw [su_c (by decide)]; exact h2) (fun j hj => by
      rw [su_s]
      by_cases jk : j = k
      · rw [jk, up_a]
      · rw [up_n jk]; exact hz j (by omega))
    refine ⟨σ', ?_, e2, fun c hc => by rw [e3 c hc, su_c hc]⟩
    rw [← e1]
    refine wl_go ?_
    show Gl_dearest_2_b 2 (k : Int) σ = _
    unfold Gl_dearest_2_b
    rw [h2, if_pos (by omega), ix_q (by omega) (by omega), ll_q, ll_q, wr_q (by omega) (by omega), Int.toNat_natCast]
    rfl
end Thread2
