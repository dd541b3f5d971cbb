/-! the first memory keeps the invariant -/
theorem s0_a {k : Nat} (h : s0T.all (fun q => q.1 != k || ([] : List Nat).contains q.2.1) = true) (j : Nat) : s0M k j = 0 := s0Z h j rfl
theorem s0_w {j : Nat} (h : [4, 5, 548, 549].contains j = false) : s0M 173 j = 0 := s0Z (ds := [4, 5, 548, 549]) (by decide +kernel) j h
theorem s0_ok : okS s0M := by
  intro k j
  unfold s0M
  have h : ∀ q ∈ s0T, inR q.2.2 := by unfold inR; decide +kernel
  cases hf : s0T.find? (fun q => q.1 == k && q.2.1 == j) with
  | none => exact ⟨by decide, by decide⟩
  | some q => exact h q (List.mem_of_find?_eq_some hf)
theorem s0_inv : Inv s0M s0M := by
  have w0 : s0M 173 0 = 0 := s0_w rfl
  have w1 : s0M 173 1 = 0 := s0_w rfl
  have w2 : s0M 173 2 = 0 := s0_w rfl
  have w3 : s0M 173 3 = 0 := s0_w rfl
  refine ⟨⟨⟨?_, ?_, ?_, ?_, ?_, ?_, ?_, ?_⟩, ⟨?_, ?_, ?_, ?_, ?_⟩, ?_, ⟨?_, ⟨?_, ?_, ?_, ?_, ?_⟩, ⟨?_, ?_, ?_, ?_⟩, ⟨?_, ?_, ?_, ?_⟩, ⟨?_, ?_, ?_, ?_, ?_, ?_⟩, ⟨?_, ?_, ?_⟩, ?_⟩, ?_⟩, PS.none (by decide +kernel) (by decide +kernel) ⟨by decide +kernel, by decide +kernel⟩, ⟨by decide +kernel, .inl (by decide +kernel), fun z => absurd z (by decide +kernel)⟩, ⟨by decide +kernel, ⟨by decide +kernel, by decide +kernel⟩, ?_, by decide +kernel, by decide +kernel⟩⟩
  · decide +kernel
  · decide +kernel
  · decide +kernel
  · decide +kernel
  · rw [w3]; show _ = opn _ 0; decide +kernel
  · rw [w3]; show _ = awt _ 0; decide +kernel
  · decide +kernel
  · intro i f hi; rw [w3] at hi; omega
  · rw [w0]; omega
  · rw [w2]; omega
  · rw [w3]; omega
  · decide +kernel
  · intro i hi; rw [w3] at hi; omega
  · rw [w0]; omega
  · decide +kernel
  · decide +kernel
  · exact ⟨by decide +kernel, by decide +kernel, by decide +kernel, by decide +kernel⟩
  · intro z; rw [show s0M 173 551 = 0 from s0_w rfl] at z; omega
  · intro j hj; rw [show s0M 173 551 = 0 from s0_w rfl] at hj; omega
  · intro j hj; rw [show s0M 173 551 = 0 from s0_w rfl] at hj; omega
  · decide +kernel
  · exact ⟨by decide +kernel, by decide +kernel, by decide +kernel, by decide +kernel⟩
  · intro z; rw [show s0M 173 552 = 0 from s0_w rfl] at z; omega
  · intro j hj; rw [show s0M 173 552 = 0 from s0_w rfl] at hj; omega
  · decide +kernel
  · exact ⟨by decide +kernel, by decide +kernel, by decide +kernel, by decide +kernel⟩
  · intro z; rw [show s0M 173 553 = 0 from s0_w rfl] at z; omega
  · intro j hj; rw [show s0M 173 553 = 0 from s0_w rfl] at hj; omega
  · decide +kernel
  · exact ⟨by decide +kernel, by decide +kernel, by decide +kernel⟩
  · intro z; rw [show s0M 173 550 = 0 from s0_w rfl] at z; omega
  · exact ⟨by decide +kernel, by decide +kernel⟩
  · intro j hj; rw [show s0M 173 550 = 0 from s0_w rfl] at hj; omega
  · intro j hj; rw [show s0M (1 + 16) 3 = 0 by decide +kernel] at hj; omega
  · decide +kernel
  · exact ⟨by decide +kernel, by decide +kernel⟩
  · intro j hj; rw [show s0M 173 554 = 0 from s0_w rfl] at hj; omega
  · decide +kernel
  · intro j hj; rw [w2] at hj; omega
  · intro j hj; rw [show s0M 172 16 = 0 by decide +kernel] at hj; omega
theorem ms_self (μ : Sg) : ms false μ μ = μ := by funext k j; unfold ms; split <;> rfl
