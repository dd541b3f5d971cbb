/-! thread: the call -/
section Thread3
variable {σ τ : Sg}
/-- messages from k on are reckoned: class's row and reference's agree -/
def thR (n k : Nat) (σ τ : Sg) : Prop := (∀ j, j < k → σ 167 j = mxF (τ 173) (τ 188) j k (n - k)) ∧ ∀ j, k ≤ j → j < n → mW (τ 173) j 7 = 0 → σ 167 j = τ 188 j ∧ 0 ≤ τ 188 j ∧ τ 188 j ≤ 9 * ((n : Int) - j)
theorem thR_in {n k : Nat} (hk : k ≤ n) (h : thR n k σ τ) (i : Nat) : 0 ≤ mxF (τ 173) (τ 188) i k (n - k) ∧ mxF (τ 173) (τ 188) i k (n - k) ≤ 9 * ((n : Int) - k) :=
  mxF_in (by omega) _ _ (fun x h1 h2 h7 => by
    have := h.2 x h1 (by omega) h7
    omega)
theorem thR_back {n i : Nat} (hi : i < n) (h : thR n (i + 1) σ τ) (h7 : mW (τ 173) i 7 ≠ 0) : thR n i σ τ := by
  refine ⟨fun j hj => ?_, fun j h1 h2 h3 => ?_⟩
  · rw [h.1 j (by omega), show n - i = (n - (i + 1)) + 1 by omega]
    have b := thR_in (by omega) h j
    show _ = mx2 (gvF (τ 173) (τ 188) j i) (mxF (τ 173) (τ 188) j (i + 1) (n - (i + 1)))
    unfold gvF
    rw [if_neg (fun z => h7 z.2)]
    have := mx2_q 0 (mxF (τ 173) (τ 188) j (i + 1) (n - (i + 1)))
    omega
  · by_cases ji : j = i
    · rw [ji] at h3; exact absurd h3 h7
    · exact h.2 j (by omega) h2 h3
theorem thR_step {n i : Nat} (hi : i < n) (h : thR n (i + 1) σ τ) (h7 : mW (τ 173) i 7 = 0) (h4 : 0 ≤ mW (τ 173) i 4 ∧ mW (τ 173) i 4 ≤ 9) {v : Int} (hv : v = mW (τ 173) i 4 + mxF (τ 173) (τ 188) i (i + 1) (n - (i + 1))) {σ' τ' : Sg} (hs : σ' 167 i = v) (ht : τ' 188 = up (τ 188) i v) (hw : τ' 173 = τ 173) (hj : ∀ j, j ≠ i → σ' 167 j = if mW (τ 173) i 6 = j then mx2 (σ 167 j) v else σ 167 j) (h6 : mW (τ 173) i 6 < i) : thR n i σ' τ' := by
  have bi := thR_in (by omega) h i
  have hco : ∀ j, mxF (τ 173) (τ' 188) j (i + 1) (n - (i + 1)) = mxF (τ 173) (τ 188) j (i + 1) (n - (i + 1)) := fun j => mxF_co _ _ (fun x hx => by rw [ht, up_n (by omega)])
  refine ⟨fun j hj' => ?_, fun j h1 h2 h3 => ?_⟩
  · have b := thR_in (by omega) h j
    rw [hj j (by omega), h.1 j (by omega), hw, show n - i = (n - (i + 1)) + 1 by omega]
    show _ = mx2 (gvF (τ 173) (τ' 188) j i) (mxF (τ 173) (τ' 188) j (i + 1) (n - (i + 1)))
    rw [hco]
    unfold gvF
    generalize mxF (τ 173) (τ 188) j (i + 1) (n - (i + 1)) = u at b ⊢
    by_cases z : mW (τ 173) i 6 = j
    · rw [if_pos z, if_pos ⟨z, h7⟩, ht, up_a]
      have a1 := mx2_q u v
      have a2 := mx2_q v u
      omega
    · rw [if_neg z, if_neg (fun y => z y.1)]
      have := mx2_q 0 u
      omega
  · rw [hw] at h3
    by_cases ji : j = i
    · rw [ji, hs, ht, up_a]; exact ⟨rfl, by omega, by omega⟩
    · have := h.2 j (by omega) h2 h3
      rw [hj j ji, if_neg (by omega), ht, up_n ji]
      exact this
end Thread3
