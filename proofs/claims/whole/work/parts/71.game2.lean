section Game2
variable {σ τ : Sg}
theorem bX0 {x : Int} (h : inR x) : bXor x 0 = x := by
  unfold bXor; rw [show Int32.ofInt 0 = 0 from i32_0, Int32.xor_zero]; exact i32_t h
theorem b0X {x : Int} (h : inR x) : bXor 0 x = x := by
  unfold bXor; rw [show Int32.ofInt 0 = 0 from i32_0, Int32.zero_xor]; exact i32_t h
def xrF (w : Nat → Int) : Nat → Nat → Int → Int
  | _, 0, acc => acc
  | i, n + 1, acc => xrF w (i + 1) n (bXor acc (hpF w i))
theorem xrF_in (w : Nat → Int) : ∀ n i acc, inR acc → inR (xrF w i n acc)
  | 0, _, _, h => h
  | n + 1, i, acc, _ => xrF_in w n (i + 1) _ (bXor_R _ _)
/-- the least take from k on that leaves o -/
def tkF (l c o : Int) : Nat → Nat → Int
  | _, 0 => -1
  | k, n + 1 => if Int.tmod (l - k) (c + 2) = o then k else tkF l c o (k + 1) n
theorem worthC (hT : TR 2 σ (τ 173)) (hW : WF (τ 173)) : Gl_gameWorth 2 σ = some (xrF (τ 173) 0 (τ 173 3).toNat 0) := by
  have h60 := hW.2.2.1
  have key : ∀ n i : Nat, i + n = (τ 173 3).toNat → ∀ x : Int, inR x → Gl_gameWorth_4_w σ 2 x (i : Int) = some (xrF (τ 173) i n x) := by
    intro n
    induction n with
    | zero =>
      intro i hi x hx
      refine wl_end ?_
      show Gl_gameWorth_4_b σ 2 x (i : Int) = _
      unfold Gl_gameWorth_4_b
      rw [hT.2.2.1, if_neg (by omega)]; rfl
    | succ n ih =>
      intro i hi x hx
      have hin : (i : Int) < τ 173 3 := by omega
      obtain ⟨-, -, -, m3, m4, -⟩ := hW.2.2.2.2 i hin
      obtain ⟨-, -, -, g3, g4, -⟩ := hT.g hin
      show _ = some (xrF (τ 173) (i + 1) n (bXor x (hpF (τ 173) i)))
      rw [← ih (i + 1) (by omega) _ (bXor_R _ _), show ((i + 1 : Nat) : Int) = (i : Int) + 1 by omega]
      refine wl_go ?_
      show Gl_gameWorth_4_b σ 2 x (i : Int) = _
      unfold Gl_gameWorth_4_b hpF
      rw [hT.2.2.1, if_pos hin, isOpen_q hT hin h60.2, b1_q, ix_q (by omega) (by omega), ix_q (by omega) (by omega), Int.toNat_natCast, g3, g4, heapC m4, b1_q]
      simp only [ll_q]
      rw [wr_q (by omega) (by omega)]
      by_cases c : mW (τ 173) i 2 = -1 ∧ mW (τ 173) i 7 = 0
      · rw [if_pos c, if_pos c, i10]
      · rw [if_neg c, if_neg c, i00, bX0 hx]
  unfold Gl_gameWorth
  exact key _ 0 (by omega) 0 ⟨by decide, by decide⟩
theorem takeC (hT : TR 2 σ (τ 173)) (hW : WF (τ 173)) {i : Nat} (hin : (i : Int) < τ 173 3) (ho : mW (τ 173) i 2 = -1 ∧ mW (τ 173) i 7 = 0) (all : Int) : Gl_winningTake 2 (i : Int) all σ = some (tkF (mW (τ 173) i 3) (mW (τ 173) i 4) (bXor all (hpF (τ 173) i)) 1 (min (mW (τ 173) i 4 + 1) (mW (τ 173) i 3)).toNat) := by
  have h60 := hW.2.2.1
  obtain ⟨-, -, -, m3, m4, -⟩ := hW.2.2.2.2 i hin
  obtain ⟨-, -, -, g3, g4, -⟩ := hT.g hin
  generalize hq : min (mW (τ 173) i 4 + 1) (mW (τ 173) i 3) = q
  have hq2 : 1 ≤ q ∧ q ≤ 10 ∧ q ≤ mW (τ 173) i 3 := by omega
  have key : ∀ n k : Nat, k + n = q.toNat + 1 → 1 ≤ k → ∀ o : Int, Gl_winningTake_41_w q (i : Int) σ 2 o (k : Int) = some (tkF (mW (τ 173) i 3) (mW (τ 173) i 4) o k n) := by
    intro n
    induction n with
    | zero =>
      intro k hk h1 o
      refine wl_end ?_
      show Gl_winningTake_41_b q (i : Int) σ 2 o (k : Int) = _
      unfold Gl_winningTake_41_b
      rw [if_pos (by omega)]; rfl
    | succ n ih =>
      intro k hk h1 o
      unfold tkF
      have st : Gl_winningTake_41_b q (i : Int) σ 2 o (k : Int) = if Int.tmod (mW (τ 173) i 3 - k) (mW (τ 173) i 4 + 2) = o then some (.inr (k : Int)) else some (.inl (((k + 1 : Nat) : Int))) := by
        unfold Gl_winningTake_41_b
        rw [if_neg (by omega), ix_q (by omega) (by omega), ix_q (by omega) (by omega), Int.toNat_natCast, g3, g4, wr_q (by omega) (by omega), heapC m4, b1_q, ll_q, wr_q (by omega) (by omega)]
        rfl
      by_cases c : Int.tmod (mW (τ 173) i 3 - k) (mW (τ 173) i 4 + 2) = o
      · rw [if_pos c] at st ⊢
        exact wl_end st
      · rw [if_neg c] at st ⊢
        rw [← ih (k + 1) (by omega) (by omega) o]
        exact wl_go st
  unfold Gl_winningTake
  have hp : hpF (τ 173) i = Int.tmod (mW (τ 173) i 3) (mW (τ 173) i 4 + 2) := by unfold hpF; rw [if_pos ho]
  rw [ix_q (by omega) (by omega), ix_q (by omega) (by omega), Int.toNat_natCast, g3, g4, heapC m4, b1_q, ll_q, ix_q (by omega) (by omega), ix_q (by omega) (by omega), wr_q (by omega) (by omega), min_q, b1_q, hq, ← hp]
  exact key q.toNat 1 (by omega) (by omega) _
end Game2
