section Game3
variable {σ τ : Sg}
def tkI (w : Nat → Int) (all : Int) (i : Nat) : Int := tkF (mW w i 3) (mW w i 4) (bXor all (hpF w i)) 1 (min (mW w i 4 + 1) (mW w i 3)).toNat
def gmF (w : Nat → Int) (all a : Int) : Nat → Nat → Int
  | _, 0 => -1
  | i, n + 1 => if (mW w i 2 = -1 ∧ mW w i 7 = 0) ∧ tkI w all i ≠ -1 then (if a = 0 then (i : Int) else tkI w all i) else gmF w all a (i + 1) n
theorem tkF_pos {l c o : Int} : ∀ n k : Nat, 1 ≤ k → tkF l c o k n = -1 ∨ 1 ≤ tkF l c o k n
  | 0, _, _ => Or.inl rfl
  | n + 1, k, h => by
    unfold tkF; split
    · right; omega
    · exact tkF_pos n (k + 1) (by omega)
theorem takeM (hW : WF (τ 173)) {i : Nat} (hin : (i : Int) < τ 173 3) (ho : mW (τ 173) i 2 = -1 ∧ mW (τ 173) i 7 = 0) (all a : Int) : Mo_game_54_w (i : Int) τ all a 1 = if tkI (τ 173) all i = -1 then some (.inl ((i : Int) + 1)) else some (.inr (.inr (if a = 0 then (i : Int) else tkI (τ 173) all i))) := by
  have h60 := hW.2.2.1
  obtain ⟨-, -, -, m3, m4, -, -, m7, -⟩ := hW.2.2.2.2 i hin
  have hp : hpF (τ 173) i = Int.tmod (mW (τ 173) i 3) (mW (τ 173) i 4 + 2) := by unfold hpF; rw [if_pos ho]
  unfold tkI
  generalize hq : min (mW (τ 173) i 4 + 1) (mW (τ 173) i 3) = q
  have hq2 : 1 ≤ q ∧ q ≤ 10 ∧ q ≤ mW (τ 173) i 3 ∧ q ≤ mW (τ 173) i 4 + 1 := by omega
  have key : ∀ n k : Nat, k + n = q.toNat + 1 → 1 ≤ k → Mo_game_54_w (i : Int) τ all a (k : Int) = if tkF (mW (τ 173) i 3) (mW (τ 173) i 4) (bXor all (hpF (τ 173) i)) k n = -1 then some (.inl ((i : Int) + 1)) else some (.inr (.inr (if a = 0 then (i : Int) else tkF (mW (τ 173) i 3) (mW (τ 173) i 4) (bXor all (hpF (τ 173) i)) k n))) := by
    intro n
    induction n with
    | zero =>
      intro k hk h1
      rw [if_pos (show tkF (mW (τ 173) i 3) (mW (τ 173) i 4) (bXor all (hpF (τ 173) i)) k 0 = -1 from rfl)]
      refine wl_end ?_
      show Mo_game_54_b (i : Int) τ all a (k : Int) = _
      unfold Mo_game_54_b
      rw [isUnread_q (by omega) m7, b1_q, if_pos ho, i10, of_4 (by omega), b1_q, wr_q (n := mW (τ 173) i 4 + 1) (by omega) (by omega), of_3 (by omega), b1_q, wr_q (n := (i : Int) + 1) (by omega) (by omega)]
      by_cases c : mW (τ 173) i 4 + 1 < (k : Int)
      · rw [if_pos c, ll_q]
      · rw [if_neg c, if_pos (by omega), ll_q]
    | succ n ih =>
      intro k hk h1
      have hm : inR (Int.tmod (mW (τ 173) i 3 - k) (mW (τ 173) i 4 + 2)) := tmodR ⟨by omega, by omega⟩
      have st : Mo_game_54_b (i : Int) τ all a (k : Int) = if Int.tmod (mW (τ 173) i 3 - k) (mW (τ 173) i 4 + 2) = bXor all (hpF (τ 173) i) then (if a = 0 then some (.inr (.inr (.inr (i : Int)))) else some (.inr (.inr (.inr (k : Int))))) else some (.inl (((k + 1 : Nat) : Int))) := by
        unfold Mo_game_54_b
        rw [isUnread_q (by omega) m7, b1_q, if_pos ho, i10, of_4 (by omega), b1_q, wr_q (n := mW (τ 173) i 4 + 1) (by omega) (by omega), if_neg (by omega), of_3 (by omega), b1_q, if_neg (by omega), b1_q, b1_q, wr_q (n := mW (τ 173) i 4 + 2) (by omega) (by omega), nzd_q (by omega), wr_q (n := mW (τ 173) i 3 - k) (by omega) (by omega), ll_q, heapM hW hin, b1_q, ll_q, wr_q (n := (k : Int) + 1) (by omega) (by omega)]
        by_cases c : Int.tmod (mW (τ 173) i 3 - k) (mW (τ 173) i 4 + 2) = bXor all (hpF (τ 173) i)
        · rw [if_pos c, if_pos ((bXor_0 hm).mpr c)]
        · rw [if_neg c, if_neg (fun z => c ((bXor_0 hm).mp z))]; rfl
      unfold tkF
      by_cases c : Int.tmod (mW (τ 173) i 3 - k) (mW (τ 173) i 4 + 2) = bXor all (hpF (τ 173) i)
      · rw [if_pos c] at st ⊢
        rw [if_neg (by omega)]
        refine wl_end (st.trans ?_)
        split <;> rfl
      · rw [if_neg c] at st ⊢
        rw [← ih (k + 1) (by omega) (by omega)]
        exact wl_go st
  exact key q.toNat 1 (by omega) (by omega)
theorem mod_ne {l k c : Int} (hl : 1 ≤ l ∧ l ≤ 99) (hc : 0 ≤ c ∧ c ≤ 9) (hk : 1 ≤ k ∧ k ≤ c + 1 ∧ k ≤ l) : Int.tmod (l - k) (c + 2) ≠ Int.tmod l (c + 2) := by
  rw [Int.tmod_eq_emod_of_nonneg (by omega), Int.tmod_eq_emod_of_nonneg (by omega)]
  have h : c = 0 ∨ c = 1 ∨ c = 2 ∨ c = 3 ∨ c = 4 ∨ c = 5 ∨ c = 6 ∨ c = 7 ∨ c = 8 ∨ c = 9 := by omega
  rcases h with rfl | rfl | rfl | rfl | rfl | rfl | rfl | rfl | rfl | rfl <;> simp only [Int.reduceAdd] <;> omega
theorem tkI_zero {w : Nat → Int} (hW : WF w) {i : Nat} (hin : (i : Int) < w 3) (ho : mW w i 2 = -1 ∧ mW w i 7 = 0) : tkI w 0 i = -1 := by
  obtain ⟨-, -, -, m3, m4, -⟩ := hW.2.2.2.2 i hin
  have hp : hpF w i = Int.tmod (mW w i 3) (mW w i 4 + 2) := by unfold hpF; rw [if_pos ho]
  unfold tkI
  rw [hp, b0X (tmodR ⟨by omega, by omega⟩)]
  generalize hq : min (mW w i 4 + 1) (mW w i 3) = q
  have key : ∀ n k : Nat, k + n = q.toNat + 1 → 1 ≤ k → tkF (mW w i 3) (mW w i 4) (Int.tmod (mW w i 3) (mW w i 4 + 2)) k n = -1 := by
    intro n
    induction n with
    | zero => intro k _ _; rfl
    | succ n ih =>
      intro k hk h1
      unfold tkF
      rw [if_neg (mod_ne m3 m4 (by omega))]
      exact ih (k + 1) (by omega) (by omega)
  exact key q.toNat 1 (by omega) (by omega)
theorem p_game (h : Inv σ τ) (a : Int) : Same1 (Td_game a σ) (Mo_game a τ) := by
  obtain ⟨hT, hW, -, -, -⟩ := h.parts
  have h60 := hW.2.2.1
  unfold Td_game Mo_game
  rw [within_q, isIn_q, b1_q, b1_q]
  by_cases ha : 0 ≤ a ∧ a ≤ 1
  · rw [if_pos ha, i10, i10, worthC hT hW, b1_q]
    generalize hall : xrF (τ 173) 0 (τ 173 3).toNat 0 = all
    -- the reference: its last loop
    have last : ∀ n i : Nat, i + n = (τ 173 3).toNat → Mo_game_41_w τ all a (i : Int) = some (.inr (gmF (τ 173) all a i n)) := by
      intro n
      induction n with
      | zero =>
        intro i hi
        refine wl_end ?_
        show Mo_game_41_b τ all a (i : Int) = _
        unfold Mo_game_41_b
        rw [if_neg (by omega)]; rfl
      | succ n ih =>
        intro i hi
        have hin : (i : Int) < τ 173 3 := by omega
        obtain ⟨-, -, -, -, -, -, -, m7, -⟩ := hW.2.2.2.2 i hin
        unfold gmF
        by_cases ho : mW (τ 173) i 2 = -1 ∧ mW (τ 173) i 7 = 0
        · have st : Mo_game_41_b τ all a (i : Int) = if tkI (τ 173) all i = -1 then some (.inl ((i : Int) + 1)) else some (.inr (.inr (if a = 0 then (i : Int) else tkI (τ 173) all i))) := by
            unfold Mo_game_41_b; rw [if_pos hin]; exact takeM hW hin ho all a
          by_cases c : tkI (τ 173) all i = -1
          · rw [if_pos c] at st
            rw [if_neg (fun z => z.2 c), ← ih (i + 1) (by omega), show ((i + 1 : Nat) : Int) = (i : Int) + 1 by omega]
            exact wl_go st
          · rw [if_neg c] at st
            rw [if_pos ⟨ho, c⟩]
            exact wl_end st
        · rw [if_neg (fun z => ho z.1), ← ih (i + 1) (by omega), show ((i + 1 : Nat) : Int) = (i : Int) + 1 by omega]
          refine wl_go ?_
          show Mo_game_41_b τ all a (i : Int) = _
          unfold Mo_game_41_b
          rw [if_pos hin]
          refine wl_end ?_
          show Mo_game_54_b (i : Int) τ all a 1 = _
          unfold Mo_game_54_b
          rw [isUnread_q (by omega) m7, b1_q, if_neg ho, i00, ll_q, wr_q (by omega) (by omega)]
    have first : ∀ n i : Nat, i + n = (τ 173 3).toNat → ∀ x : Int, inR x → xrF (τ 173) i n x = all → Mo_game_15_w τ a x (i : Int) = some (gmF (τ 173) all a 0 (τ 173 3).toNat) := by
      intro n
      induction n with
      | zero =>
        intro i hi x hx hxa
        have hxa' : x = all := hxa
        subst hxa'
        refine wl_end ?_
        show Mo_game_15_b τ a x (i : Int) = _
        unfold Mo_game_15_b
        rw [if_neg (by omega)]
        exact last _ 0 (by omega)
      | succ n ih =>
        intro i hi x hx hxa
        have hin : (i : Int) < τ 173 3 := by omega
        rw [← ih (i + 1) (by omega) (bXor x (hpF (τ 173) i)) (bXor_R _ _) hxa, show ((i + 1 : Nat) : Int) = (i : Int) + 1 by omega]
        refine wl_go ?_
        show Mo_game_15_b τ a x (i : Int) = _
        unfold Mo_game_15_b
        rw [if_pos hin, heapM hW hin, b1_q, ll_q, ll_q, wr_q (by omega) (by omega)]
    refine ⟨gmF (τ 173) all a 0 (τ 173 3).toNat, ?_, first _ 0 (by omega) 0 ⟨by decide, by decide⟩ hall⟩
    have comp : ∀ n i : Nat, i + n = (τ 173 3).toNat → Td_game_31_w σ all a (i : Int) = some (gmF (τ 173) all a i n) := by
      intro n
      induction n with
      | zero =>
        intro i hi
        refine wl_end ?_
        show Td_game_31_b σ all a (i : Int) = _
        unfold Td_game_31_b
        rw [hT.2.2.1, if_neg (by omega)]; rfl
      | succ n ih =>
        intro i hi
        have hin : (i : Int) < τ 173 3 := by omega
        by_cases z : all = 0
        · have allm : ∀ n i : Nat, i + n = (τ 173 3).toNat → gmF (τ 173) all a i n = -1 := by
            intro n
            induction n with
            | zero => intro i _; rfl
            | succ n ih2 =>
              intro i hi
              unfold gmF
              rw [if_neg (fun q => q.2 (by rw [z]; exact tkI_zero hW (by omega) q.1))]
              exact ih2 (i + 1) (by omega)
          rw [allm _ _ hi]
          refine wl_end ?_
          show Td_game_31_b σ all a (i : Int) = _
          unfold Td_game_31_b
          rw [hT.2.2.1, if_pos hin, if_pos z]
        · unfold gmF
          by_cases ho : mW (τ 173) i 2 = -1 ∧ mW (τ 173) i 7 = 0
          · have st : Td_game_31_b σ all a (i : Int) = if tkI (τ 173) all i = -1 then some (.inl ((i : Int) + 1)) else some (.inr (if a = 0 then (i : Int) else tkI (τ 173) all i)) := by
              unfold Td_game_31_b
              rw [hT.2.2.1, if_pos hin, if_neg z, isOpen_q hT hin h60.2, b1_q, if_pos ho, i10, takeC hT hW hin ho, b1_q, b1_q, ll_q, wr_q (by omega) (by omega)]
              show (if tkI (τ 173) all i = -1 then _ else _) = _
              by_cases c : tkI (τ 173) all i = -1
              · rw [if_pos c, if_pos c]
              · rw [if_neg c, if_neg c]; split <;> rfl
            by_cases c : tkI (τ 173) all i = -1
            · rw [if_pos c] at st
              rw [if_neg (fun q => q.2 c), ← ih (i + 1) (by omega), show ((i + 1 : Nat) : Int) = (i : Int) + 1 by omega]
              exact wl_go st
            · rw [if_neg c] at st
              rw [if_pos ⟨ho, c⟩]
              exact wl_end st
          · rw [if_neg (fun q => ho q.1), ← ih (i + 1) (by omega), show ((i + 1 : Nat) : Int) = (i : Int) + 1 by omega]
            refine wl_go ?_
            show Td_game_31_b σ all a (i : Int) = _
            unfold Td_game_31_b
            rw [hT.2.2.1, if_pos hin, if_neg z, isOpen_q hT hin h60.2, b1_q, if_neg ho, i00, b1_q, if_pos rfl, ll_q, wr_q (by omega) (by omega)]
    exact comp _ 0 (by omega)
  · rw [if_neg ha, i00, i00]; exact ⟨_, rfl, rfl⟩
end Game3
