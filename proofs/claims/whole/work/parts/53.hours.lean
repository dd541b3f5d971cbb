/-! what one is in an hour -/
section Loops
variable {α β : Type} {B : α → Option (α ⊕ β)} {a : α}
theorem wl_go {c : α} (h : B a = some (.inl c)) : wl B a = wl B c := by rw [wl_eq, h]; rfl
theorem wl_end {b : β} (h : B a = some (.inr b)) : wl B a = some b := by rw [wl_eq, h]; rfl
end Loops
theorem cell_q {σ : Sg} {s i k W F : Nat} (hw : σ s 1 = (W : Int)) (hF : σ s 2 = (F : Int)) (hlt : i * W + k < F) (hln : F ≤ ln (s + 1)) (h1 : F ≤ 1000) : Sh_cell s (i : Int) (k : Int) σ = some (σ (s + 1) (i * W + k)) := by
  unfold Sh_cell
  have e : (i : Int) * (W : Int) + (k : Int) = ((i * W + k : Nat) : Int) := by simp
  rw [hw, hF, e, wr_q (by omega) (by omega), ll_q, if_neg (by omega), if_pos (by omega), ix_q (by omega) (by omega), Int.toNat_natCast]
def actF (w : Nat → Int) (one hour : Int) : Nat → Nat → Int
  | _, 0 => 0
  | i, n + 1 => if w (555 + 4 * i) = one ∧ Int.tmod (hour - w (555 + (4 * i + 1)) + 24) 24 < w (555 + (4 * i + 2)) then w (555 + (4 * i + 3)) else actF w one hour (i + 1) n
def act (w : Nat → Int) (one hour : Int) : Int := actF w one hour 0 (w 551).toNat
section Hours
variable {σ τ : Sg} {s c w : Nat → Int}
theorem actM (h : HR s c (τ 173)) {one hour : Int} (hh : 0 ≤ hour ∧ hour ≤ 23) : Mo_isIn0 one hour τ = some (act (τ 173) one hour) := by
  obtain ⟨-, h2, -, -, h5⟩ := h
  have key : ∀ n i : Nat, i + n = (τ 173 551).toNat → Mo_isIn0_2_w τ one hour (i : Int) = some (actF (τ 173) one hour i n) := by
    intro n
    induction n with
    | zero =>
      intro i hi
      refine wl_end ?_
      unfold Mo_isIn0_2_b
      rw [if_neg (by omega)]; rfl
    | succ n ih =>
      intro i hi
      have hb := h5 i (by omega)
      have e1 : (555 + 4 * (i : Int)).toNat = 555 + 4 * i := by omega
      have e2 : (555 + 4 * (i : Int) + 1).toNat = 555 + (4 * i + 1) := by omega
      have e3 : (555 + 4 * (i : Int) + 2).toNat = 555 + (4 * i + 2) := by omega
      have e4 : (555 + 4 * (i : Int) + 3).toNat = 555 + (4 * i + 3) := by omega
      have ei : (i : Int) + 1 = ((i + 1 : Nat) : Int) := by omega
      unfold actF
      by_cases hc : τ 173 (555 + 4 * i) = one
      · by_cases hd : Int.tmod (hour - τ 173 (555 + (4 * i + 1)) + 24) 24 < τ 173 (555 + (4 * i + 2))
        · rw [if_pos ⟨hc, hd⟩]
          refine wl_end ?_
          unfold Mo_isIn0_2_b
          rw [if_pos (by omega), wr_q (by omega) (by omega), ll_q, ix_q (by omega) (by omega), e1, if_pos hc, ix_q (by omega) (by omega), ix_q (by omega) (by omega), e2, e3, wr_q (by omega) (by omega), if_pos hd, ix_q (by omega) (by omega), e4]
        · rw [if_neg (fun z => hd z.2), ← ih (i + 1) (by omega), ← ei]
          refine wl_go ?_
          unfold Mo_isIn0_2_b
          rw [if_pos (by omega), wr_q (by omega) (by omega), ll_q, ix_q (by omega) (by omega), e1, if_pos hc, ix_q (by omega) (by omega), ix_q (by omega) (by omega), e2, e3, wr_q (by omega) (by omega), if_neg hd, ll_q, wr_q (by omega) (by omega)]
      · rw [if_neg (fun z => hc z.1), ← ih (i + 1) (by omega), ← ei]
        refine wl_go ?_
        unfold Mo_isIn0_2_b
        rw [if_pos (by omega), wr_q (by omega) (by omega), ll_q, ix_q (by omega) (by omega), e1, if_neg hc, ll_q, wr_q (by omega) (by omega)]
  unfold Mo_isIn0 act
  exact key _ 0 (by omega)
theorem actC {W : Nat} (hW : W = 1) (h : HR (σ (W + 19)) (σ (W + 20)) w) {one hour : Int} (hh : 0 ≤ hour ∧ hour ≤ 23) : Wo_doing W one hour σ = some (act w one hour) := by
  obtain ⟨h1, h2, h3, h4, h5⟩ := h
  have hln : ln (W + 19 + 1) = 64 := by subst hW; decide +kernel
  have key : ∀ n i : Nat, i + n = (w 551).toNat → Wo_doing_10_w σ W hour one (i : Int) = some (actF w one hour i n) := by
    intro n
    induction n with
    | zero =>
      intro i hi
      refine wl_end ?_
      unfold Wo_doing_10_b
      rw [h1, if_neg (by omega)]; rfl
    | succ n ih =>
      intro i hi
      have hb := h5 i (by omega)
      obtain ⟨g1, g2⟩ := h3 (by omega)
      have g2' : σ (W + 19) 2 = ((4 * (w 551).toNat : Nat) : Int) := by omega
      have c0 := cell_q (i := i) (k := 0) (W := 4) g1 g2' (by omega) (by omega) (by omega)
      have c1 := cell_q (i := i) (k := 1) (W := 4) g1 g2' (by omega) (by omega) (by omega)
      have c2 := cell_q (i := i) (k := 2) (W := 4) g1 g2' (by omega) (by omega) (by omega)
      have c3 := cell_q (i := i) (k := 3) (W := 4) g1 g2' (by omega) (by omega) (by omega)
      rw [show i * 4 + 0 = 4 * i by omega, h4 (4 * i) (by omega)] at c0
      rw [show i * 4 + 1 = 4 * i + 1 by omega, h4 (4 * i + 1) (by omega)] at c1
      rw [show i * 4 + 2 = 4 * i + 2 by omega, h4 (4 * i + 2) (by omega)] at c2
      rw [show i * 4 + 3 = 4 * i + 3 by omega, h4 (4 * i + 3) (by omega)] at c3
      have ei : (i : Int) + 1 = ((i + 1 : Nat) : Int) := by omega
      simp only [Int.cast_ofNat_Int] at c0 c1 c2 c3
      unfold actF
      by_cases hc : w (555 + 4 * i) = one
      · by_cases hd : Int.tmod (hour - w (555 + (4 * i + 1)) + 24) 24 < w (555 + (4 * i + 2))
        · rw [if_pos ⟨hc, hd⟩]
          refine wl_end ?_
          unfold Wo_doing_10_b
          rw [h1, if_pos (by omega), c1, b1_q, wr_q (by omega) (by omega), ll_q, c0, b1_q, if_pos hc, c2, b1_q, if_pos hd, c3, b1_q]
        · rw [if_neg (fun z => hd z.2), ← ih (i + 1) (by omega), ← ei]
          refine wl_go ?_
          unfold Wo_doing_10_b
          rw [h1, if_pos (by omega), c1, b1_q, wr_q (by omega) (by omega), ll_q, c0, b1_q, if_pos hc, c2, b1_q, if_neg hd, ll_q, wr_q (by omega) (by omega)]
      · rw [if_neg (fun z => hc z.1), ← ih (i + 1) (by omega), ← ei]
        refine wl_go ?_
        unfold Wo_doing_10_b
        rw [h1, if_pos (by omega), c1, b1_q, wr_q (by omega) (by omega), ll_q, c0, b1_q, if_neg hc, ll_q, wr_q (by omega) (by omega)]
  unfold Wo_doing act
  exact key _ 0 (by omega)
theorem hour_in {m : Int} (h : 0 ≤ m) : 0 ≤ Int.tmod (Int.tdiv m 60) 24 ∧ Int.tmod (Int.tdiv m 60) 24 ≤ 23 := by
  rw [Int.tdiv_eq_ediv_of_nonneg h, Int.tmod_eq_emod_of_nonneg (by omega)]
  omega
theorem p_of (h : Inv σ τ) (a b : Int) : Same1 (Td_of a b σ) (Mo_of a b τ) := by
  obtain ⟨⟨hT, hW, hM, hS, hB⟩, hP, hI, hR⟩ := h
  unfold Td_of Mo_of Mo_hourNow
  rw [isOneC_q, isOneM_q, hour_q hT]
  simp only [b1_q]
  have hh := hour_in (hW.1.1)
  by_cases ho : a = 0 ∨ a = 1
  · rw [if_pos ho, i10, i10, actC rfl hS.2.1 hh, actM hS.2.1 hh]
    obtain ⟨i, rfl⟩ := Int.eq_ofNat_of_zero_le (show 0 ≤ a by omega)
    have hi : i < 2 := by omega
    rw [ix_q (by omega) (by omega), ix_q (by omega) (by omega), ix_q (by omega) (by omega), ix_q (by omega) (by omega), ix_q (by omega) (by omega), ix_q (by omega) (by omega), Int.toNat_natCast, show (4 + (i : Int)).toNat = 4 + i by omega, show (6 + (i : Int)).toNat = 6 + i by omega, show (548 + (i : Int)).toNat = 548 + i by omega]
    have q1 := (hT.2.2.2.2.2.2.1 i hi).1
    have q2 := (hT.2.2.2.2.2.2.1 i hi).2
    have q3 := (hS.1 i hi).1
    simp only [Nat.reduceAdd] at q1 q2 q3
    rw [q1, q2, q3]
    repeat' (first | exact ⟨_, rfl, rfl⟩ | split)
  · rw [if_neg ho, i00, i00]; exact ⟨_, rfl, rfl⟩
end Hours
