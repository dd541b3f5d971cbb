/-! messages that wait, and answers -/
section Msgs
variable {t : Nat} {σ τ : Sg} {w : Nat → Int}
theorem TR.g {i : Nat} (h : TR t σ w) (hi : (i : Int) < w 3) : σ (t + 4) i = mW w i 0 ∧ σ (t + 5) i = mW w i 1 ∧ σ (t + 6) i = mW w i 2 ∧ σ (t + 7) i = mW w i 3 ∧ σ (t + 8) i = mW w i 4 ∧ σ (t + 9) i = mW w i 5 ∧ σ (t + 10) i = mW w i 6 ∧ σ (t + 11) i = mW w i 7 ∧ σ (t + 12) i = mW w i 8 :=
  have k := h.2.2.2.2.2.2.2
  ⟨k i 0 hi (by decide), k i 1 hi (by decide), k i 2 hi (by decide), k i 3 hi (by decide), k i 4 hi (by decide), k i 5 hi (by decide), k i 6 hi (by decide), k i 7 hi (by decide), k i 8 hi (by decide)⟩
theorem of_0 {i : Nat} (hi : i < 60) : Mo_of0 (i : Int) 0 τ = some (mW (τ 173) i 0) := of0_q hi (f := 0) (by decide)
theorem of_1 {i : Nat} (hi : i < 60) : Mo_of0 (i : Int) 1 τ = some (mW (τ 173) i 1) := of0_q hi (f := 1) (by decide)
theorem of_2 {i : Nat} (hi : i < 60) : Mo_of0 (i : Int) 2 τ = some (mW (τ 173) i 2) := of0_q hi (f := 2) (by decide)
theorem of_3 {i : Nat} (hi : i < 60) : Mo_of0 (i : Int) 3 τ = some (mW (τ 173) i 3) := of0_q hi (f := 3) (by decide)
theorem of_4 {i : Nat} (hi : i < 60) : Mo_of0 (i : Int) 4 τ = some (mW (τ 173) i 4) := of0_q hi (f := 4) (by decide)
theorem of_5 {i : Nat} (hi : i < 60) : Mo_of0 (i : Int) 5 τ = some (mW (τ 173) i 5) := of0_q hi (f := 5) (by decide)
theorem of_6 {i : Nat} (hi : i < 60) : Mo_of0 (i : Int) 6 τ = some (mW (τ 173) i 6) := of0_q hi (f := 6) (by decide)
theorem of_7 {i : Nat} (hi : i < 60) : Mo_of0 (i : Int) 7 τ = some (mW (τ 173) i 7) := of0_q hi (f := 7) (by decide)
theorem of_8 {i : Nat} (hi : i < 60) : Mo_of0 (i : Int) 8 τ = some (mW (τ 173) i 8) := of0_q hi (f := 8) (by decide)
theorem isBack_q {i : Nat} (hi : i < 60) (h7 : mW (τ 173) i 7 = 0 ∨ mW (τ 173) i 7 = 1) : Mo_isBack (i : Int) τ = some (mW (τ 173) i 7) := by
  unfold Mo_isBack; rw [of_7 hi, b1_q]
  rcases h7 with h | h
  · rw [if_neg (by omega), h]
  · rw [if_pos h, h]
theorem isUnread_q {i : Nat} (hi : i < 60) (h7 : mW (τ 173) i 7 = 0 ∨ mW (τ 173) i 7 = 1) : Mo_isUnread (i : Int) τ = some (if mW (τ 173) i 2 = -1 ∧ mW (τ 173) i 7 = 0 then 1 else 0) := by
  unfold Mo_isUnread; rw [of_2 hi, b1_q, isBack_q hi h7, b1_q]
  by_cases h2 : mW (τ 173) i 2 = -1
  · rw [if_pos h2]
    by_cases h0 : mW (τ 173) i 7 = 0
    · rw [if_pos h0, if_pos ⟨h2, h0⟩]
    · rw [if_neg h0, if_neg (fun z => h0 z.2)]
  · rw [if_neg h2, if_neg (fun z => h2 z.1)]
theorem isOpen_q {i : Nat} (h : TR t σ w) (hi : (i : Int) < w 3) (h60 : w 3 ≤ 60) : Ta_isOpen t (i : Int) σ = some (if mW w i 2 = -1 ∧ mW w i 7 = 0 then 1 else 0) := by
  obtain ⟨g0, g1, g2, g3, g4, g5, g6, g7, g8⟩ := h.g hi
  unfold Ta_isOpen
  rw [ix_q (by omega) (by omega), ix_q (by omega) (by omega), Int.toNat_natCast, g2, g7]
  by_cases a : mW w i 2 = -1
  · rw [if_pos a]
    by_cases b : mW w i 7 = 0
    · rw [if_pos b, if_pos ⟨a, b⟩]
    · rw [if_neg b, if_neg (fun z => b z.2)]
  · rw [if_neg a, if_neg (fun z => a z.1)]
def ansF (w : Nat → Int) (i : Int) : Nat → Nat → Int
  | _, 0 => 0
  | k, n + 1 => if mW w k 6 = i ∧ mW w k 7 = 0 then 1 else ansF w i (k + 1) n
theorem ansF_z (w : Nat → Int) (i : Int) : ∀ n k, ansF w i k n = 0 ∨ ansF w i k n = 1
  | 0, _ => Or.inl rfl
  | n + 1, k => by
    unfold ansF; split
    · exact Or.inr rfl
    · exact ansF_z w i n (k + 1)
def wtF (w : Nat → Int) (one : Int) (i : Nat) : Int := if mW w i 0 = one then 0 else if mW w i 7 = 0 then 1 - ansF w i (i + 1) ((w 3).toNat - (i + 1)) else 0
theorem wtF_z (w : Nat → Int) (one : Int) (i : Nat) : wtF w one i = 0 ∨ wtF w one i = 1 := by
  unfold wtF; split
  · exact Or.inl rfl
  · split
    · rcases ansF_z w i ((w 3).toNat - (i + 1)) (i + 1) with h | h <;> rw [h]
      · exact Or.inr rfl
      · exact Or.inl rfl
    · exact Or.inl rfl
theorem answered_q (hW : WF (τ 173)) {i : Nat} (hi : (i : Int) < τ 173 3) : Mo_isAnswered (i : Int) τ = some (ansF (τ 173) i (i + 1) ((τ 173 3).toNat - (i + 1))) := by
  have h60 := hW.2.2.1
  have key : ∀ n k : Nat, k + n = (τ 173 3).toNat → Mo_isAnswered_4_w τ (i : Int) (k : Int) = some (ansF (τ 173) i k n) := by
    intro n
    induction n with
    | zero =>
      intro k hk
      refine wl_end ?_
      unfold Mo_isAnswered_4_b
      rw [if_neg (by omega)]; rfl
    | succ n ih =>
      intro k hk
      have h7 := (hW.2.2.2.2 k (by omega)).2.2.2.2.2.2.2.1
      have ek : (k : Int) + 1 = ((k + 1 : Nat) : Int) := by omega
      unfold ansF
      by_cases c6 : mW (τ 173) k 6 = (i : Int)
      · by_cases h0 : mW (τ 173) k 7 = 0
        · rw [if_pos ⟨c6, h0⟩]
          refine wl_end ?_
          unfold Mo_isAnswered_4_b
          rw [if_pos (by omega), of_6 (by omega), b1_q, if_pos c6, isBack_q (by omega) h7, b1_q, if_pos h0]
        · rw [if_neg (fun z => h0 z.2), ← ih (k + 1) (by omega), ← ek]
          refine wl_go ?_
          unfold Mo_isAnswered_4_b
          rw [if_pos (by omega), of_6 (by omega), b1_q, if_pos c6, isBack_q (by omega) h7, b1_q, if_neg h0, ll_q, wr_q (by omega) (by omega)]
      · rw [if_neg (fun z => c6 z.1), ← ih (k + 1) (by omega), ← ek]
        refine wl_go ?_
        unfold Mo_isAnswered_4_b
        rw [if_pos (by omega), of_6 (by omega), b1_q, if_neg c6, ll_q, wr_q (by omega) (by omega)]
  unfold Mo_isAnswered
  rw [ll_q, wr_q (by omega) (by omega), show (i : Int) + 1 = ((i + 1 : Nat) : Int) by omega]
  exact key _ _ (by omega)
theorem waiting_q (hW : WF (τ 173)) {i : Nat} (hi : (i : Int) < τ 173 3) {one : Int} (ho : one = 0 ∨ one = 1) : Mo_isWaiting (i : Int) one τ = some (wtF (τ 173) one i) := by
  have h60 := hW.2.2.1
  obtain ⟨m0, -, -, -, -, -, -, m7, -⟩ := hW.2.2.2.2 i hi
  unfold Mo_isWaiting Mo_goesTo wtF
  rw [of_0 (by omega), b1_q, b1_q, wr_q (by omega) (by omega), isBack_q (by omega) m7, answered_q hW hi]
  simp only [b1_q]
  by_cases c0 : mW (τ 173) i 0 = one
  · rw [if_pos c0, if_neg (by omega)]
  · rw [if_neg c0, if_pos (by omega)]
    by_cases h0 : mW (τ 173) i 7 = 0
    · rw [if_pos h0, if_pos h0]
      rcases ansF_z (τ 173) i ((τ 173 3).toNat - (i + 1)) (i + 1) with h | h <;> rw [h] <;> rfl
    · rw [if_neg h0, if_neg h0]
theorem waitsFor_q (h : TR t σ w) (hW : WF w) {i : Nat} (hi : (i : Int) < w 3) (one : Int) : Ta_waitsFor t one (i : Int) σ = some (wtF w one i) := by
  have h60 := hW.2.2.1
  obtain ⟨g0, -, -, -, -, -, -, g7, -⟩ := h.g hi
  have key : ∀ n k : Nat, k + n = (w 3).toNat → Ta_waitsFor_25_w σ t (i : Int) (k : Int) = some (1 - ansF w i k n) := by
    intro n
    induction n with
    | zero =>
      intro k hk
      refine wl_end ?_
      unfold Ta_waitsFor_25_b
      rw [h.2.2.1, if_neg (by omega)]; rfl
    | succ n ih =>
      intro k hk
      obtain ⟨-, -, -, -, -, -, q6, q7, -⟩ := h.g (i := k) (by omega)
      have ek : (k : Int) + 1 = ((k + 1 : Nat) : Int) := by omega
      unfold ansF
      by_cases c6 : mW w k 6 = (i : Int)
      · by_cases c7 : mW w k 7 = 0
        · rw [if_pos ⟨c6, c7⟩]
          refine wl_end ?_
          unfold Ta_waitsFor_25_b
          rw [h.2.2.1, if_pos (by omega), ix_q (by omega) (by omega), ix_q (by omega) (by omega), Int.toNat_natCast, q6, q7, if_pos c6, if_pos c7]; rfl
        · rw [if_neg (fun z => c7 z.2), ← ih (k + 1) (by omega), ← ek]
          refine wl_go ?_
          unfold Ta_waitsFor_25_b
          rw [h.2.2.1, if_pos (by omega), ix_q (by omega) (by omega), ix_q (by omega) (by omega), Int.toNat_natCast, q6, q7, if_pos c6, if_neg c7, ll_q, wr_q (by omega) (by omega)]
      · rw [if_neg (fun z => c6 z.1), ← ih (k + 1) (by omega), ← ek]
        refine wl_go ?_
        unfold Ta_waitsFor_25_b
        rw [h.2.2.1, if_pos (by omega), ix_q (by omega) (by omega), Int.toNat_natCast, q6, if_neg c6, ll_q, wr_q (by omega) (by omega)]
  unfold Ta_waitsFor wtF
  rw [ix_q (by omega) (by omega), ix_q (by omega) (by omega), Int.toNat_natCast, g0, g7]
  by_cases c0 : mW w i 0 = one
  · rw [if_pos c0, if_pos c0]
  · rw [if_neg c0, if_neg c0]
    by_cases c7 : mW w i 7 = 0
    · rw [if_pos c7, if_pos c7, ll_q, wr_q (by omega) (by omega), show (i : Int) + 1 = ((i + 1 : Nat) : Int) by omega]
      exact key _ _ (by omega)
    · rw [if_neg c7, if_neg c7]
theorem p_which (h : Inv σ τ) (a : Int) : Same1 (Td_which a σ) (Mo_which a τ) := by
  obtain ⟨⟨hT, hW, hM, hS, hB⟩, hP, hI, hR⟩ := h
  have hT : TR 2 σ (τ 173) := hT
  have h60 := hW.2.2.1
  unfold Td_which Mo_which
  rw [isOneC_q, b1_q]
  by_cases ho : a = 0 ∨ a = 1
  · rw [if_pos ho, i10]
    have key := wl_two (B := fun p : Int × Int × Int => Gl_worthiest_8_b σ 2 a p.1 p.2.1 p.2.2) (B' := fun p : Int × Int × Int => Mo_which_7_b τ a p.1 p.2.1 p.2.2) (fun p => (τ 173 3 - p.2.2).toNat) (fun p q => p = q ∧ 0 ≤ p.2.2 ∧ p.2.2 ≤ τ 173 3 ∧ -1 ≤ p.2.1) (fun r r' => r = r') (by
      rintro ⟨x, y, k⟩ ⟨x', y', k'⟩ ⟨e, h1, h2, h3⟩
      cases e
      dsimp only at h1 h2 h3 ⊢
      unfold Gl_worthiest_8_b Mo_which_7_b
      rw [hT.2.2.1]
      by_cases hk : k < τ 173 3
      · right
        obtain ⟨i, rfl⟩ := Int.eq_ofNat_of_zero_le h1
        obtain ⟨-, -, -, g3, g4, -, -, -, -⟩ := hT.g hk
        obtain ⟨-, -, -, m3, m4, -⟩ := hW.2.2.2.2 i hk
        rw [if_pos hk, if_pos hk, ix_q (by omega) (by omega), ix_q (by omega) (by omega), Int.toNat_natCast, g3, g4, isOneM_q, b1_q, if_pos ho, i10, waitsFor_q hT hW hk, waiting_q hW hk ho, of_3 (by omega), of_4 (by omega)]
        simp only [b1_q, ll_q]
        rw [wr_q (n := mW (τ 173) i 3 + _) (by omega) (by omega), wr_q (n := (i : Int) + 1) (by omega) (by omega)]
        rcases wtF_z (τ 173) a i with hz | hz
        · rw [hz, i00, i00, b1_q]
          by_cases hy : mW (τ 173) i 3 + 10 * mW (τ 173) i 4 < y
          · rw [if_pos hy]
            by_cases hy2 : (-1 : Int) < y
            · rw [if_pos hy2]; exact ⟨_, _, rfl, rfl, ⟨rfl, by dsimp only; omega, by dsimp only; omega, h3⟩, by dsimp only; omega⟩
            · rw [if_neg hy2, if_pos rfl]; exact ⟨_, _, rfl, rfl, ⟨rfl, by dsimp only; omega, by dsimp only; omega, h3⟩, by dsimp only; omega⟩
          · rw [if_neg hy]
            by_cases hy2 : (-1 : Int) < y
            · rw [if_pos hy2]; exact ⟨_, _, rfl, rfl, ⟨rfl, by dsimp only; omega, by dsimp only; omega, h3⟩, by dsimp only; omega⟩
            · rw [if_neg hy2, if_pos rfl]; exact ⟨_, _, rfl, rfl, ⟨rfl, by dsimp only; omega, by dsimp only; omega, h3⟩, by dsimp only; omega⟩
        · rw [hz, i10, i10, b1_q]
          by_cases hy : mW (τ 173) i 3 + 10 * mW (τ 173) i 4 < y
          · rw [if_pos hy, if_pos hy]; exact ⟨_, _, rfl, rfl, ⟨rfl, by dsimp only; omega, by dsimp only; omega, h3⟩, by dsimp only; omega⟩
          · rw [if_neg hy, if_neg hy, if_neg (by omega)]; exact ⟨_, _, rfl, rfl, ⟨rfl, by dsimp only; omega, by dsimp only; omega, by dsimp only; omega⟩, by dsimp only; omega⟩
      · left; exact ⟨x, x, by rw [if_neg hk], by rw [if_neg hk], rfl⟩) (-1, -1, 0) (-1, -1, 0) ⟨rfl, by dsimp only; omega, by dsimp only; omega, by dsimp only; omega⟩
    obtain ⟨r, r', h1, h2, h3⟩ := key
    refine ⟨r, ?_, by rw [h3]; exact h2⟩
    rw [show Gl_worthiest 2 a σ = some r from h1, b1_q]
  · rw [if_neg ho, i00]
    refine ⟨-1, rfl, wl_end ?_⟩
    unfold Mo_which_7_b
    dsimp only
    by_cases hk : (0 : Int) < τ 173 3
    · rw [if_pos hk, isOneM_q, b1_q, if_neg ho, i00]
    · rw [if_neg hk]
end Msgs
