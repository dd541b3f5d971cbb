/-! copies: the class's own walk over the delays -/
section Copies2
variable {σ τ : Sg}
theorem crO (a : Int) : ∀ (n i : Nat), 1 ≤ i → i + n = 61 → (∀ x y, x < i → ¬ rpt (σ 171) x y) → (∃ i0 b : Nat, i0 ≤ 60 ∧ rpt (σ 171) i0 b ∧ (∀ x y, x < i0 → ¬ rpt (σ 171) x y) ∧ Td_comesRound_2_w σ a (i : Int) = some (if a = 0 then (i0 : Int) else (i0 : Int) - b)) ∨ ((∀ x y, x ≤ 60 → ¬ rpt (σ 171) x y) ∧ Td_comesRound_2_w σ a (i : Int) = some (-1))
  | 0, i, h0, h1, h2 => by
    right
    refine ⟨fun x y hx => h2 x y (by omega), wl_end ?_⟩
    show Td_comesRound_2_b σ a (i : Int) = _
    unfold Td_comesRound_2_b
    rw [if_pos (by omega)]
  | n + 1, i, h0, h1, h2 => by
    rcases crC (σ := σ) a (i := i) ⟨h0, by omega⟩ 60 ((i : Int) - 2) (by omega) (by omega) (by omega) (by omega) with ⟨b, hr, hw⟩ | ⟨hr, hw⟩
    · left
      refine ⟨i, b, by omega, hr, h2, wl_end ?_⟩
      show Td_comesRound_2_b σ a (i : Int) = _
      unfold Td_comesRound_2_b
      rw [if_neg (by omega), ll_q, wr_q (by omega) (by omega), hw]
    · have s1 : Td_comesRound_2_w σ a (i : Int) = Td_comesRound_2_w σ a ((i + 1 : Nat) : Int) := by
        refine wl_go ?_
        show Td_comesRound_2_b σ a (i : Int) = _
        unfold Td_comesRound_2_b
        rw [if_neg (by omega), ll_q, wr_q (by omega) (by omega), hw]
        rfl
      rw [s1]
      refine crO a n (i + 1) (by omega) (by omega) (fun x y hx hxy => ?_)
      by_cases hxi : x = i
      · rw [hxi] at hxy
        refine hr y ?_ hxy
        unfold rpt at hxy
        omega
      · exact h2 x y (by omega) hxy
theorem rpt_ag {d d' : Nat → Int} {i j : Nat} (h : ∀ x, 1 ≤ x → x ≤ i → d' x = d x) (hr : rpt d i j) : rpt d' i j := by
  unfold rpt at hr ⊢
  refine ⟨hr.1, hr.2.1, hr.2.2.1, ?_⟩
  rw [h j hr.1 (by omega), h i (by omega) (by omega)]
  exact hr.2.2.2
/-- what the reference has found so far: the first place that comes round, and how far back -/
def fndR (d : Nat → Int) (f g : Int) (k : Nat) : Prop := (f = -1 ∧ g = -1 ∧ ∀ x y, x < k → ¬ rpt d x y) ∨ ∃ i0 b : Nat, f = i0 ∧ g = (i0 : Int) - b ∧ i0 < k ∧ rpt d i0 b ∧ ∀ x y, x < i0 → ¬ rpt d x y
theorem fndM (r : Int) {i : Nat} (hi : 1 ≤ i ∧ i ≤ 60) {f g : Int} (h : fndR (τ 184) f g i) : ∃ f' g', Mo_copies_114_w (i : Int) τ r f g 1 = some (.inl (r, f', g', (i : Int) + 1, τ)) ∧ fndR (τ 184) f' g' (i + 1) := by
  rcases h with ⟨hf, hg, hn⟩ | ⟨i0, b, hf, hg, hi0, hr, hn⟩
  · subst hf; subst hg
    rcases crM (τ := τ) r hi hn (i - 1) 1 (by omega) (by omega) (fun b hb hr => (by unfold rpt at hr; omega)) with ⟨b, hr, hw⟩ | ⟨hr, hw⟩
    · exact ⟨_, _, hw, .inr ⟨i, b, rfl, rfl, by omega, hr, hn⟩⟩
    · refine ⟨_, _, hw, .inl ⟨rfl, rfl, fun x y hx hxy => ?_⟩⟩
      by_cases hxi : x = i
      · rw [hxi] at hxy; exact hr y hxy
      · exact hn x y (by omega) hxy
  · refine ⟨f, g, wl_end ?_, .inr ⟨i0, b, hf, hg, by omega, hr, hn⟩⟩
    show Mo_copies_114_b (i : Int) τ r f g 1 = _
    unfold Mo_copies_114_b
    by_cases h1 : (1 : Int) < i
    · rw [if_pos h1, if_neg (by omega), ll_q, wr_q (by omega) (by omega)]
    · rw [if_neg h1, ll_q, wr_q (by omega) (by omega)]
theorem fndR_ag {d d' : Nat → Int} {f g : Int} {k : Nat} (h : ∀ x, 1 ≤ x → x < k → d' x = d x) (hr : fndR d f g k) : fndR d' f g k := by
  rcases hr with ⟨hf, hg, hn⟩ | ⟨i0, b, hf, hg, hi0, hr, hn⟩
  · exact .inl ⟨hf, hg, fun x y hx hxy => hn x y hx (rpt_ag (fun z z1 z2 => (h z z1 (by omega)).symm) hxy)⟩
  · exact .inr ⟨i0, b, hf, hg, hi0, rpt_ag (fun z z1 z2 => h z z1 (by omega)) hr, fun x y hx hxy => hn x y hx (rpt_ag (fun z z1 z2 => (h z z1 (by omega)).symm) hxy)⟩
/-- the class finds the same -/
theorem fndC (a : Int) (ha : a = 0 ∨ a = 1) {f g : Int} (h : fndR (σ 171) f g 61) : Td_comesRound a σ = some (if a = 0 then f else g) := by
  show Td_comesRound_2_w σ a ((1 : Nat) : Int) = _
  rcases crO (σ := σ) a 60 1 (by omega) (by omega) (fun x y hx hxy => (by unfold rpt at hxy; omega)) with ⟨i0, b, h1, h2, h3, h4⟩ | ⟨h1, h2⟩
  · rw [h4]
    rcases h with ⟨hf, hg, hn⟩ | ⟨i1, b1, hf, hg, hi1, hr, hn⟩
    · exact absurd h2 (hn i0 b (by omega))
    · have e : i0 = i1 := by
        rcases Nat.lt_trichotomy i0 i1 with z | z | z
        · exact absurd h2 (hn i0 b z)
        · exact z
        · exact absurd hr (h3 i1 b1 z)
      subst e
      rw [rpt_one h3 h2 hr, hf, hg]
  · rw [h2]
    rcases h with ⟨hf, hg, hn⟩ | ⟨i1, b1, hf, hg, hi1, hr, hn⟩
    · rw [hf, hg]; split <;> rfl
    · exact absurd hr (h1 i1 b1 (by omega))
end Copies2
