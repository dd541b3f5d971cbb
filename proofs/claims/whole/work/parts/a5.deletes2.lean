/-! deletes: a set is taken back -/
theorem bsh5 : ∀ r : Nat, r < 5 → bShl 1 ((r : Nat) : Int) = ((2 ^ r : Nat) : Int) := by decide +kernel
theorem bitk : ∀ s : Nat, s < 16 → ∀ k : Nat, k < 4 → bAnd (bShr ((s : Nat) : Int) ((k : Nat) : Int)) 1 = ((s / 2 ^ k % 2 : Nat) : Int) := by decide +kernel
theorem half : ∀ x : Nat, x < 16 → bShr ((x : Nat) : Int) 1 = ((x / 2 : Nat) : Int) ∧ bAnd ((x : Nat) : Int) 1 = ((x % 2 : Nat) : Int) := by decide +kernel
theorem zbit : ∀ s : Nat, s < 16 → ∀ k : Nat, k < 5 → ∀ y : Nat, y < 4 → k ≤ y → s / 2 ^ k = 0 → s / 2 ^ y % 2 = 0 := by decide +kernel
theorem sbit : ∀ s : Nat, s < 16 → ∀ k : Nat, k < 4 → s / 2 ^ (k + 1) = s / 2 ^ k / 2 := by decide +kernel
theorem lbit : ∀ s : Nat, s < 16 → ∀ k : Nat, k < 5 → s / 2 ^ k < 16 ∧ (s < 2 ^ k → s / 2 ^ k = 0) := by decide +kernel
theorem su_id {τ : Sg} {k j : Nat} {v : Int} (h : τ k j = v) : su τ k j v = τ := by
  funext a b
  unfold su
  by_cases e : a = k ∧ b = j
  · rw [if_pos e, e.1, e.2, h]
  · rw [if_neg e]
section Deletes2
variable {σ τ : Sg}
theorem dlZ {many s : Nat} (hm : many ≤ 4) (hs : s < 16) (a2 one v6 v5 : Int) : ∀ x k : Nat, k + x = many → (∀ y, k ≤ y → y < many → s / 2 ^ y % 2 = 0) → (∀ y, k ≤ y → y < many → ∃ j : Nat, j < 60 ∧ τ 183 y = j ∧ mW (τ 173) j 7 = 0) → Mo_deletes_120_w (many : Int) (s : Int) a2 one v6 v5 (k : Int) τ = Mo_deletes_120_w (many : Int) (s : Int) a2 one v6 v5 (many : Int) τ
  | 0, k, hk, _, _ => by rw [show k = many by omega]
  | x + 1, k, hk, h1, h2 => by
    obtain ⟨j, j1, j2, j3⟩ := h2 k (by omega) (by omega)
    rw [← dlZ hm hs a2 one v6 v5 x (k + 1) (by omega) (fun y a b => h1 y (by omega) b) (fun y a b => h2 y (by omega) b)]
    refine wl_go ?_
    show Mo_deletes_120_b (many : Int) (s : Int) a2 one v6 v5 (k : Int) τ = _
    unfold Mo_deletes_120_b
    have p := puts_q (τ := τ) (i := j) (f := 7) (v := 0) j1 (by decide)
    rw [su_id (show τ 173 (8 + 9 * j + 7) = 0 from j3)] at p
    rw [if_pos (by omega), ix_q (by omega) (by omega), Int.toNat_natCast, j2, bitk s hs k (by omega), h1 k (by omega) (by omega), show Mo_puts0 (j : Int) 7 ((0 : Nat) : Int) τ = some τ from p, b1_q, wr_q (by omega) (by omega), ll_q]
    rfl
theorem dlW {one : Int} (hone : one = 0 ∨ one = 1) {w0 : Nat → Int} {n many s : Nat} (hn60 : n ≤ 60) (hmn : many = min 4 (cnF w0 one n)) (hs : s < 2 ^ many) (h16 : s < 16) (a2 v6 v5 : Int) : ∀ (m i : Nat) (σ τ : Sg), i + m = n → CR 153 1 σ τ → τ 173 3 = n → (∀ j f, i ≤ j → j < n → f < 9 → mW (τ 173) j f = mW w0 j f) → arF w0 one n (τ 183) → ∃ σ' τ', Co_withdrawSet_5_w one ((s / 2 ^ (min many (cnF w0 one i)) : Nat) : Int) (i : Int) σ = some σ' ∧ Mo_deletes_120_w (many : Int) (s : Int) a2 one v6 v5 ((min many (cnF w0 one i) : Nat) : Int) τ = Mo_deletes_120_w (many : Int) (s : Int) a2 one v6 v5 (many : Int) τ' ∧ CR 153 1 σ' τ' ∧ FR 153 σ σ' τ τ' ∧ τ' 173 0 = τ 173 0 := by
  have hm4 : many ≤ 4 := by omega
  intro m
  induction m with
  | zero =>
    intro i σ τ hi h hn hu hA
    have e : i = n := by omega
    subst e
    have ek : min many (cnF w0 one i) = many := by omega
    rw [ek, (lbit s h16 many (by omega)).2 hs]
    refine ⟨σ, τ, wl_end ?_, rfl, h, FR.refl, rfl⟩
    show Co_withdrawSet_5_b one _ (i : Int) σ = _
    unfold Co_withdrawSet_5_b
    rw [h.tn, isT_q h.tkk, h.TR.2.2.1, hn, if_neg (by omega)]
  | succ m ih =>
    intro i σ τ hi h hn hu hA
    have htk := h.tkk
    have hcl := cnF_mo (w := w0) (one := one) (n - i) i
    rw [show i + (n - i) = n by omega] at hcl
    by_cases hL : s / 2 ^ (min many (cnF w0 one i)) = 0
    · rw [hL]
      refine ⟨σ, τ, wl_end ?_, ?_, h, FR.refl, rfl⟩
      · show Co_withdrawSet_5_b one ((0 : Nat) : Int) (i : Int) σ = _
        unfold Co_withdrawSet_5_b
        rw [h.tn, isT_q htk, h.TR.2.2.1, hn, if_pos (by omega), if_pos (show ((0 : Nat) : Int) = 0 from rfl)]
      · refine dlZ hm4 h16 a2 one v6 v5 (many - min many (cnF w0 one i)) _ (by omega) (fun y a b => zbit s h16 _ (by omega) y (by omega) a hL) (fun y a b => ?_)
        obtain ⟨j, j1, j2, j3, j4⟩ := cnF_ex (w := w0) (one := one) (x := y) (n - i) i (by omega) (by rw [show i + (n - i) = n by omega]; omega)
        refine ⟨j, by omega, ?_, ?_⟩
        · rw [← j4]; exact hA j (by omega) j3 (by omega)
        · rw [hu j 7 j1 (by omega) (by decide)]; exact j3.2.2
    · have hk : cnF w0 one i < many := by
        rcases Nat.lt_or_ge (cnF w0 one i) many with y | y
        · exact y
        · rw [show min many (cnF w0 one i) = many by omega] at hL
          exact absurd ((lbit s h16 many (by omega)).2 hs) hL
      have ek : min many (cnF w0 one i) = cnF w0 one i := by omega
      rw [ek] at hL ⊢
      have hi3 : (i : Int) < τ 173 3 := by omega
      have b60 := h.WF.2.2.1
      have io := isOpen_q h.TR hi3 b60.2
      have s0 := (TR.g h.TR hi3).1
      rw [hu i 0 (by omega) (by omega) (by decide)] at s0
      rw [hu i 2 (by omega) (by omega) (by decide), hu i 7 (by omega) (by omega) (by decide)] at io
      by_cases ho : ooF w0 one i
      · have ek1 : min many (cnF w0 one (i + 1)) = cnF w0 one i + 1 := by rw [cnF_y ho]; omega
        have hAi := hA i (by omega) ho (by omega)
        have l16 := (lbit s h16 (cnF w0 one i) (by omega)).1
        rw [if_pos ho.2] at io
        have hh := half (s / 2 ^ cnF w0 one i) l16
        by_cases hb : s / 2 ^ cnF w0 one i % 2 = 0
        · obtain ⟨σ', τ', g1, g2, g3, g4, g5⟩ := ih (i + 1) σ τ (by omega) h hn (fun j f a b c => hu j f (by omega) b c) hA
          rw [ek1] at g1 g2
          refine ⟨σ', τ', ?_, ?_, g3, g4, g5⟩
          · rw [← g1, sbit s h16 _ (by omega)]
            refine wl_go ?_
            show Co_withdrawSet_5_b one ((s / 2 ^ cnF w0 one i : Nat) : Int) (i : Int) σ = _
            unfold Co_withdrawSet_5_b
            rw [h.tn, isT_q htk, h.TR.2.2.1, hn, if_pos (by omega), if_neg (by omega), isT_q htk, ix_q (by omega) (by omega), Int.toNat_natCast, s0, if_pos ho.1, isT_q htk, io, b1_q, if_neg (by decide), hh.2, hb, if_pos (show ((0 : Nat) : Int) = 0 from rfl), hh.1, ll_q, wr_q (by omega) (by omega), ll_q]
            rfl
          · rw [← g2]
            refine wl_go ?_
            show Mo_deletes_120_b (many : Int) (s : Int) a2 one v6 v5 _ τ = _
            unfold Mo_deletes_120_b
            have p := puts_q (τ := τ) (i := i) (f := 7) (v := 0) (by omega) (by decide)
            rw [su_id (show τ 173 (8 + 9 * i + 7) = 0 from (hu i 7 (by omega) (by omega) (by decide)).trans ho.2.2)] at p
            rw [if_pos (by omega), ix_q (by omega) (by omega), Int.toNat_natCast, hAi, bitk s h16 _ (by omega), hb, show Mo_puts0 (i : Int) 7 ((0 : Nat) : Int) τ = some τ from p, b1_q, wr_q (by omega) (by omega), ll_q]
            rfl
        · have hb1 : s / 2 ^ cnF w0 one i % 2 = 1 := by omega
          obtain ⟨σ1, τ1, c1, c2, C1, C2, c5, c6, c7⟩ := h.back hi3 ((hu i 2 (by omega) (by omega) (by decide)).trans ho.2.1) ((hu i 7 (by omega) (by omega) (by decide)).trans ho.2.2)
          have et : τ1 = su τ 173 (8 + 9 * i + 7) 1 := by
            unfold Mo_takesBack at c2
            rw [show Mo_puts0 (i : Int) 7 1 τ = _ from puts_q (f := 7) (by omega) (by decide), b1_q, of_0 (by omega), b1_q] at c2
            unfold Mo_notes at c2
            rw [show su τ 173 (8 + 9 * i + 7) 1 172 = τ 172 from su_c (by decide), if_pos (by have := h.2.1.2.2.1; omega), b1_q] at c2
            exact (Option.some.inj c2).symm
          obtain ⟨σ', τ', g1, g2, g3, g4, g5⟩ := ih (i + 1) σ1 τ1 (by omega) C1 (by rw [c5 3 (by decide) (by decide) (by omega)]; exact hn) (fun j f a b c => by
            rw [← hu j f (by omega) b c]
            exact c5 _ (by omega) (by omega) (by omega)) (by rw [c7 183 (by decide)]; exact hA)
          rw [ek1] at g1 g2
          refine ⟨σ', τ', ?_, ?_, g3, C2.trans g4, by rw [g5, c5 0 (by decide) (by decide) (by omega)]⟩
          · rw [← g1, sbit s h16 _ (by omega)]
            refine wl_go ?_
            show Co_withdrawSet_5_b one ((s / 2 ^ cnF w0 one i : Nat) : Int) (i : Int) σ = _
            unfold Co_withdrawSet_5_b
            rw [h.tn, isT_q htk, h.TR.2.2.1, hn, if_pos (by omega), if_neg (by omega), isT_q htk, ix_q (by omega) (by omega), Int.toNat_natCast, s0, if_pos ho.1, isT_q htk, io, b1_q, if_neg (by decide), hh.2, hb1, if_neg (by decide), c1, b1_q, hh.1, ll_q, wr_q (by omega) (by omega), ll_q]
            rfl
          · rw [← g2]
            refine wl_go ?_
            show Mo_deletes_120_b (many : Int) (s : Int) a2 one v6 v5 _ τ = _
            unfold Mo_deletes_120_b
            rw [if_pos (by omega), ix_q (by omega) (by omega), Int.toNat_natCast, hAi, bitk s h16 _ (by omega), hb1, show Mo_puts0 (i : Int) 7 ((1 : Nat) : Int) τ = some (su τ 173 (8 + 9 * i + 7) 1) from puts_q (f := 7) (by omega) (by decide), b1_q, ← et, wr_q (by omega) (by omega), ll_q]
            rfl
      · have ek1 : min many (cnF w0 one (i + 1)) = cnF w0 one i := by rw [cnF_n ho]; omega
        obtain ⟨σ', τ', g1, g2, g3, g4, g5⟩ := ih (i + 1) σ τ (by omega) h hn (fun j f a b c => hu j f (by omega) b c) hA
        rw [ek1] at g1 g2
        refine ⟨σ', τ', ?_, g2, g3, g4, g5⟩
        rw [← g1]
        refine wl_go ?_
        show Co_withdrawSet_5_b one ((s / 2 ^ cnF w0 one i : Nat) : Int) (i : Int) σ = _
        unfold Co_withdrawSet_5_b
        rw [h.tn, isT_q htk, h.TR.2.2.1, hn, if_pos (by omega), if_neg (by omega), isT_q htk, ix_q (by omega) (by omega), Int.toNat_natCast, s0, wr_q (by omega) (by omega)]
        by_cases z0 : mW w0 i 0 = one
        · rw [if_pos z0, isT_q htk, io, if_neg (fun y => ho ⟨z0, y⟩), b1_q, i00, ll_q]
          rfl
        · rw [if_neg z0, ll_q]
          rfl
/-- how many bits -/
def pcF (s : Nat) : Int := ((s % 2 + s / 2 % 2 + s / 4 % 2 + s / 8 % 2 : Nat) : Int)
theorem pcC : ∀ s : Nat, s < 16 → Ji_bitCount ((s : Nat) : Int) = some (pcF s) := by decide +kernel
theorem pcM {s : Nat} (hs : s < 16) : Mo_count (s : Int) = some (pcF s) := by
  have f01 : ∀ k : Nat, k < 16 → 0 ≤ bAnd (bShr ((s : Nat) : Int) ((k : Nat) : Int)) 1 ∧ bAnd (bShr ((s : Nat) : Int) ((k : Nat) : Int)) 1 ≤ 1 := by
    have h : ∀ s : Nat, s < 16 → ∀ k : Nat, k < 16 → 0 ≤ bAnd (bShr ((s : Nat) : Int) ((k : Nat) : Int)) 1 ∧ bAnd (bShr ((s : Nat) : Int) ((k : Nat) : Int)) 1 ≤ 1 := by decide +kernel
    exact h s hs
  have key : ∀ (m k : Nat) (acc : Int), k + m = 16 → 0 ≤ acc ∧ acc ≤ k → Mo_count_4_w (s : Int) acc (k : Int) = some (acc + smf (fun k => bAnd (bShr ((s : Nat) : Int) ((k : Nat) : Int)) 1) k m) := by
    intro m
    induction m with
    | zero =>
      intro k acc hk ha
      refine wl_end ?_
      show Mo_count_4_b (s : Int) acc (k : Int) = _
      unfold Mo_count_4_b smf
      rw [if_neg (by omega), Int.add_zero]
    | succ m ih =>
      intro k acc hk ha
      have q := f01 k (by omega)
      have e : acc + smf (fun k => bAnd (bShr ((s : Nat) : Int) ((k : Nat) : Int)) 1) k (m + 1) = acc + bAnd (bShr ((s : Nat) : Int) ((k : Nat) : Int)) 1 + smf (fun k => bAnd (bShr ((s : Nat) : Int) ((k : Nat) : Int)) 1) (k + 1) m := by rw [Int.add_assoc]; rfl
      rw [e, ← ih (k + 1) _ (by omega) (by omega)]
      refine wl_go ?_
      show Mo_count_4_b (s : Int) acc (k : Int) = _
      unfold Mo_count_4_b
      rw [if_pos (by omega), wr_q (by omega) (by omega), wr_q (by omega) (by omega), ll_q, ll_q]
      rfl
  have h2 : ∀ s : Nat, s < 16 → smf (fun k => bAnd (bShr ((s : Nat) : Int) ((k : Nat) : Int)) 1) 0 16 = pcF s := by decide +kernel
  unfold Mo_count
  rw [show Mo_count_4_w (s : Int) 0 0 = _ from key 16 0 0 (by omega) (by omega), Int.zero_add, h2 s hs]
end Deletes2
