/-! sums, crossed -/
def smf (f : Nat → Int) : Nat → Nat → Int
  | _, 0 => 0
  | k, n + 1 => f k + smf f (k + 1) n
theorem smf_back (f : Nat → Int) : ∀ n k, smf f k (n + 1) = smf f k n + f (k + n)
  | 0, k => by simp [smf]
  | n + 1, k => by
    have h := smf_back f n (k + 1)
    show f k + smf f (k + 1) (n + 1) = f k + smf f (k + 1) n + f (k + (n + 1))
    rw [h, show k + 1 + n = k + (n + 1) by omega]; omega
theorem smf_add (f g : Nat → Int) : ∀ n k, smf (fun i => f i + g i) k n = smf f k n + smf g k n
  | 0, _ => rfl
  | n + 1, k => by unfold smf; rw [smf_add f g n (k + 1)]; omega
theorem smf_congr {f g : Nat → Int} : ∀ n k, (∀ i, k ≤ i → i < k + n → f i = g i) → smf f k n = smf g k n
  | 0, _, _ => rfl
  | n + 1, k, h => by unfold smf; rw [h k (by omega) (by omega), smf_congr n (k + 1) (fun i h1 h2 => h i (by omega) (by omega))]
theorem smf_nn {f : Nat → Int} : ∀ n k, (∀ i, k ≤ i → i < k + n → 0 ≤ f i ∧ f i ≤ 1) → 0 ≤ smf f k n ∧ smf f k n ≤ n
  | 0, _, _ => by simp [smf]
  | n + 1, k, h => by
    have h1 := smf_nn n (k + 1) (fun i a b => h i (by omega) (by omega))
    have h2 := h k (by omega) (by omega)
    unfold smf; omega
theorem smf_zero : ∀ n k, smf (fun _ => 0) k n = 0
  | 0, _ => rfl
  | n + 1, k => by unfold smf; rw [smf_zero n (k + 1)]; rfl
theorem smf_le {f : Nat → Int} {c : Int} : ∀ n k, (∀ i, k ≤ i → i < k + n → 0 ≤ f i ∧ f i ≤ c) → 0 ≤ smf f k n ∧ smf f k n ≤ n * c
  | 0, _, _ => by simp [smf]
  | n + 1, k, h => by
    have h1 := smf_le n (k + 1) (fun i a b => h i (by omega) (by omega))
    have h2 := h k (by omega) (by omega)
    have e : ((n + 1 : Nat) : Int) * c = n * c + c := by rw [Int.natCast_add, Int.add_mul]; simp
    unfold smf; rw [e]; omega
/-- couples in any order are couples in order -/
theorem smf_pairs (q : Nat → Nat → Int) (hq : ∀ a, q a a = 0) : ∀ n, smf (fun a => smf (q a) 0 n) 0 n = smf (fun i => smf (fun j => q i j + q j i) (i + 1) (n - (i + 1))) 0 n
  | 0 => rfl
  | n + 1 => by
    rw [smf_back, smf_back (fun i => smf (fun j => q i j + q j i) (i + 1) (n + 1 - (i + 1)))]
    simp only [Nat.zero_add]
    rw [show n + 1 - (n + 1) = 0 by omega]
    have e1 : smf (fun a => smf (q a) 0 (n + 1)) 0 n = smf (fun a => smf (q a) 0 n) 0 n + smf (fun a => q a n) 0 n := by
      rw [← smf_add]; exact smf_congr n 0 (fun i _ _ => by rw [smf_back, Nat.zero_add])
    have e2 : smf (fun i => smf (fun j => q i j + q j i) (i + 1) (n + 1 - (i + 1))) 0 n = smf (fun i => smf (fun j => q i j + q j i) (i + 1) (n - (i + 1))) 0 n + smf (fun i => q i n + q n i) 0 n := by
      rw [← smf_add]
      refine smf_congr n 0 (fun i _ hi => ?_)
      rw [show n + 1 - (i + 1) = (n - (i + 1)) + 1 by omega, smf_back, show i + 1 + (n - (i + 1)) = n by omega]
    rw [e1, e2, smf_pairs q hq n, smf_add, smf_back]
    simp only [Nat.zero_add, hq n, smf]
    omega
section Crossed
variable {σ τ : Sg}
def qF (w : Nat → Int) (a b : Nat) : Int :=
  if mW w a 0 = 0 ∧ mW w b 0 = 1 ∧ mW w a 7 = 0 ∧ mW w b 7 = 0 ∧ ((mW w b 1 < mW w a 1 ∧ (mW w b 2 = -1 ∨ mW w a 1 ≤ mW w b 2)) ∨ (¬ mW w b 1 < mW w a 1 ∧ (mW w a 2 = -1 ∨ mW w b 1 ≤ mW w a 2))) then 1 else 0
theorem qF_z (w : Nat → Int) (a b : Nat) : 0 ≤ qF w a b ∧ qF w a b ≤ 1 := by unfold qF; split <;> omega
theorem haveM (hW : WF (τ 173)) {a b : Nat} (ha : (a : Int) < τ 173 3) (hb : (b : Int) < τ 173 3) (hab : a ≠ b) : Mo_haveCrossed (a : Int) (b : Int) τ = some (if ((mW (τ 173) b 1 < mW (τ 173) a 1 ∧ (mW (τ 173) b 2 = -1 ∨ mW (τ 173) a 1 ≤ mW (τ 173) b 2)) ∨ (¬ mW (τ 173) b 1 < mW (τ 173) a 1 ∧ (mW (τ 173) a 2 = -1 ∨ mW (τ 173) b 1 ≤ mW (τ 173) a 2))) then 1 else 0) := by
  have h60 := hW.2.2.1
  unfold Mo_haveCrossed
  rw [of_1 (i := a) (by omega), of_1 (i := b) (by omega), b1_q, b1_q]
  by_cases h : mW (τ 173) b 1 < mW (τ 173) a 1
  · rw [if_pos h, b1_q, if_neg (by omega), b1_q, of_2 (by omega), b1_q, of_1 (i := a) (by omega)]
    simp only [b1_q]
    by_cases h2 : mW (τ 173) b 2 = -1
    · rw [if_pos h2, if_pos (by omega)]
    · rw [if_neg h2]
      by_cases h3 : mW (τ 173) b 2 < mW (τ 173) a 1
      · rw [if_pos h3, if_neg (by omega)]
      · rw [if_neg h3, if_pos (by omega)]
  · rw [if_neg h, b1_q, if_pos rfl, b1_q, of_2 (by omega), b1_q, of_1 (i := b) (by omega)]
    simp only [b1_q]
    by_cases h2 : mW (τ 173) a 2 = -1
    · rw [if_pos h2, if_pos (by omega)]
    · rw [if_neg h2]
      by_cases h3 : mW (τ 173) a 2 < mW (τ 173) b 1
      · rw [if_pos h3, if_neg (by omega)]
      · rw [if_neg h3, if_pos (by omega)]
theorem crossM (hW : WF (τ 173)) : Mo_crossed τ = some (smf (fun a => smf (qF (τ 173) a) 0 (τ 173 3).toNat) 0 (τ 173 3).toNat) := by
  have h60 := hW.2.2.1
  have inner : ∀ (a : Nat), (a : Int) < τ 173 3 → ∀ m b : Nat, b + m = (τ 173 3).toNat → ∀ x : Int, 0 ≤ x ∧ x ≤ 10000 + b → Mo_crossed_16_w τ (a : Int) x (b : Int) = some (.inl (x + smf (qF (τ 173) a) b m, (a : Int) + 1)) := by
    intro a ha m
    induction m with
    | zero =>
      intro b hb x hx
      refine wl_end ?_
      unfold Mo_crossed_16_b
      dsimp only
      rw [if_neg (by omega), ll_q, wr_q (by omega) (by omega)]
      simp [smf]
    | succ m ih =>
      intro b hb x hx
      have hbn : (b : Int) < τ 173 3 := by omega
      obtain ⟨fa, -, -, -, -, -, -, sa, -⟩ := hW.2.2.2.2 a ha
      obtain ⟨fb, -, -, -, -, -, -, sb, -⟩ := hW.2.2.2.2 b hbn
      have hz := qF_z (τ 173) a b
      have step : Mo_crossed_16_b τ (a : Int) x (b : Int) = some (.inl (x + qF (τ 173) a b, (b : Int) + 1)) := by
        unfold Mo_crossed_16_b
        rw [if_pos hbn, of_0 (i := a) (by omega), of_0 (i := b) (by omega), isBack_q (i := a) (by omega) sa, isBack_q (i := b) (by omega) sb]
        simp only [b1_q, ll_q, Int.add_zero]
        rw [wr_q (n := x) (by omega) (by omega), wr_q (n := x + 1) (by omega) (by omega), wr_q (n := (b : Int) + 1) (by omega) (by omega)]
        by_cases c1 : mW (τ 173) a 0 = 0
        · rw [if_pos c1]
          by_cases c2 : mW (τ 173) b 0 = 1
          · rw [if_pos c2]
            by_cases c3 : mW (τ 173) a 7 = 0
            · rw [if_pos c3]
              by_cases c4 : mW (τ 173) b 7 = 0
              · rw [if_pos c4, haveM hW ha hbn (by intro e; subst e; omega), b1_q]
                unfold qF
                by_cases c5 : ((mW (τ 173) b 1 < mW (τ 173) a 1 ∧ (mW (τ 173) b 2 = -1 ∨ mW (τ 173) a 1 ≤ mW (τ 173) b 2)) ∨ (¬ mW (τ 173) b 1 < mW (τ 173) a 1 ∧ (mW (τ 173) a 2 = -1 ∨ mW (τ 173) b 1 ≤ mW (τ 173) a 2)))
                · rw [if_pos c5, i10, if_pos ⟨c1, c2, c3, c4, c5⟩]
                · rw [if_neg c5, i00, if_neg (fun z => c5 z.2.2.2.2), Int.add_zero]
              · rw [if_neg c4]; unfold qF; rw [if_neg (fun z => c4 z.2.2.2.1), Int.add_zero]
            · rw [if_neg c3]; unfold qF; rw [if_neg (fun z => c3 z.2.2.1), Int.add_zero]
          · rw [if_neg c2]; unfold qF; rw [if_neg (fun z => c2 z.2.1), Int.add_zero]
        · rw [if_neg c1]; unfold qF; rw [if_neg (fun z => c1 z.1), Int.add_zero]
      have h1 : Mo_crossed_16_w τ (a : Int) x (b : Int) = Mo_crossed_16_w τ (a : Int) (x + qF (τ 173) a b) ((b : Int) + 1) := wl_go step
      rw [h1, show (b : Int) + 1 = ((b + 1 : Nat) : Int) by omega, ih (b + 1) (by omega) _ (by omega)]
      show some (Sum.inl (x + qF (τ 173) a b + smf (qF (τ 173) a) (b + 1) m, _)) = some (Sum.inl (x + (qF (τ 173) a b + smf (qF (τ 173) a) (b + 1) m), _))
      rw [Int.add_assoc]
  have outer : ∀ m a : Nat, a + m = (τ 173 3).toNat → ∀ x : Int, 0 ≤ x ∧ x ≤ a * 60 → Mo_crossed_4_w τ x (a : Int) = some (x + smf (fun a => smf (qF (τ 173) a) 0 (τ 173 3).toNat) a m) := by
    intro m
    induction m with
    | zero =>
      intro a ha x hx
      refine wl_end ?_
      unfold Mo_crossed_4_b
      dsimp only
      rw [if_neg (by omega)]
      simp [smf]
    | succ m ih =>
      intro a ha x hx
      have hz := smf_nn (f := qF (τ 173) a) (τ 173 3).toNat 0 (fun i _ _ => qF_z _ _ _)
      have step : Mo_crossed_4_b τ x (a : Int) = some (.inl (x + smf (qF (τ 173) a) 0 (τ 173 3).toNat, (a : Int) + 1)) := by
        unfold Mo_crossed_4_b
        rw [if_pos (by omega)]
        exact inner a (by omega) _ 0 (by omega) x (by omega)
      have h1 : Mo_crossed_4_w τ x (a : Int) = Mo_crossed_4_w τ (x + smf (qF (τ 173) a) 0 (τ 173 3).toNat) ((a : Int) + 1) := wl_go step
      rw [h1, show (a : Int) + 1 = ((a + 1 : Nat) : Int) by omega, ih (a + 1) (by omega) _ (by omega)]
      show some (x + _ + smf _ (a + 1) m) = some (x + (_ + smf _ (a + 1) m))
      rw [Int.add_assoc]
  unfold Mo_crossed
  have := outer (τ 173 3).toNat 0 (by omega) 0 (by omega)
  rw [show ((0 : Nat) : Int) = 0 from rfl] at this
  rw [this, Int.zero_add]
theorem crossC (hT : TR 2 σ (τ 173)) (hW : WF (τ 173)) : Gl_crossings 2 σ = some (smf (fun i => smf (fun j => qF (τ 173) i j + qF (τ 173) j i) (i + 1) ((τ 173 3).toNat - (i + 1))) 0 (τ 173 3).toNat) := by
  have h60 := hW.2.2.1
  have inner : ∀ (i : Nat), (i : Int) < τ 173 3 → ∀ m j : Nat, j + m = (τ 173 3).toNat → i < j → ∀ x : Int, 0 ≤ x ∧ x ≤ 10000 + j → Gl_crossings_17_w σ 2 (i : Int) x (j : Int) = some (.inl (x + smf (fun j => qF (τ 173) i j + qF (τ 173) j i) j m, (i : Int) + 1)) := by
    intro i hi m
    induction m with
    | zero =>
      intro j hj hij x hx
      refine wl_end ?_
      unfold Gl_crossings_17_b
      dsimp only
      rw [hT.2.2.1, if_neg (by omega), ll_q, wr_q (by omega) (by omega)]
      simp [smf]
    | succ m ih =>
      intro j hj hij x hx
      have hjn : (j : Int) < τ 173 3 := by omega
      obtain ⟨fa, s1, r1, -, -, -, -, b1', -⟩ := hW.2.2.2.2 i hi
      obtain ⟨fb, s2, r2, -, -, -, -, b2', -, ord⟩ := hW.2.2.2.2 j hjn
      have hord := ord i hij
      obtain ⟨g0, g1, g2, -, -, -, -, g7, -⟩ := hT.g hi
      obtain ⟨k0, k1, k2, -, -, -, -, k7, -⟩ := hT.g hjn
      have hz : 0 ≤ qF (τ 173) i j + qF (τ 173) j i ∧ qF (τ 173) i j + qF (τ 173) j i ≤ 1 ∧ qF (τ 173) i j + qF (τ 173) j i = if mW (τ 173) i 0 ≠ mW (τ 173) j 0 ∧ mW (τ 173) i 7 = 0 ∧ mW (τ 173) j 7 = 0 ∧ (mW (τ 173) i 2 = -1 ∨ mW (τ 173) j 1 ≤ mW (τ 173) i 2) then 1 else 0 := by
        unfold qF
        split <;> split <;> split <;> omega
      have step : Gl_crossings_17_b σ 2 (i : Int) x (j : Int) = some (.inl (x + (qF (τ 173) i j + qF (τ 173) j i), (j : Int) + 1)) := by
        unfold Gl_crossings_17_b
        rw [hT.2.2.1, if_pos hjn]
        simp only [ix_q (show (0 : Int) ≤ (i : Int) by omega) (show (i : Int) < 60 by omega), ix_q (show (0 : Int) ≤ (j : Int) by omega) (show (j : Int) < 60 by omega), Int.toNat_natCast, g0, g1, g2, g7, k0, k1, k2, k7, ll_q, Int.add_zero]
        rw [wr_q (n := x) (by omega) (by omega), wr_q (n := x + 1) (by omega) (by omega), wr_q (n := (j : Int) + 1) (by omega) (by omega), hz.2.2]
        by_cases c1 : mW (τ 173) i 0 = mW (τ 173) j 0
        · rw [if_pos c1, b1_q, if_neg (c := mW (τ 173) i 0 ≠ _ ∧ _) (fun z => z.1 c1), Int.add_zero]
          split
          · rw [b1_q, i00]
          · split <;> rw [b1_q, i00]
        · rw [if_neg c1]
          by_cases c3 : mW (τ 173) i 7 = 0
          · rw [if_pos c3]
            by_cases c4 : mW (τ 173) j 7 = 0
            · rw [if_pos c4, b1_q]
              by_cases c5 : mW (τ 173) i 2 = -1
              · rw [if_pos c5, b1_q, i10, i00, if_pos ⟨c1, c3, c4, Or.inl c5⟩]
              · rw [if_neg c5]
                by_cases c6 : mW (τ 173) i 2 < mW (τ 173) j 1
                · rw [if_pos c6, b1_q, i10, i10, if_neg (by omega), Int.add_zero]
                · rw [if_neg c6, b1_q, i10, i00, if_pos ⟨c1, c3, c4, Or.inr (by omega)⟩]
            · rw [if_neg c4, b1_q, if_neg (c := mW (τ 173) i 0 ≠ _ ∧ _) (fun z => c4 z.2.2.1), Int.add_zero]
              split
              · rw [b1_q, i00]
              · split <;> rw [b1_q, i00]
          · rw [if_neg c3, b1_q, if_neg (c := mW (τ 173) i 0 ≠ _ ∧ _) (fun z => c3 z.2.1), Int.add_zero]
            split
            · rw [b1_q, i00]
            · split <;> rw [b1_q, i00]
      have h1 : Gl_crossings_17_w σ 2 (i : Int) x (j : Int) = Gl_crossings_17_w σ 2 (i : Int) (x + (qF (τ 173) i j + qF (τ 173) j i)) ((j : Int) + 1) := wl_go step
      rw [h1, show (j : Int) + 1 = ((j + 1 : Nat) : Int) by omega, ih (j + 1) (by omega) (by omega) _ (by omega)]
      show some (Sum.inl (x + _ + smf _ (j + 1) m, _)) = some (Sum.inl (x + (_ + smf _ (j + 1) m), _))
      rw [Int.add_assoc]
  have outer : ∀ m i : Nat, i + m = (τ 173 3).toNat → ∀ x : Int, 0 ≤ x ∧ x ≤ i * 120 → Gl_crossings_4_w σ 2 x (i : Int) = some (x + smf (fun i => smf (fun j => qF (τ 173) i j + qF (τ 173) j i) (i + 1) ((τ 173 3).toNat - (i + 1))) i m) := by
    intro m
    induction m with
    | zero =>
      intro i hi x hx
      refine wl_end ?_
      unfold Gl_crossings_4_b
      dsimp only
      rw [hT.2.2.1, if_neg (by omega)]
      simp [smf]
    | succ m ih =>
      intro i hi x hx
      have hz := smf_le (f := fun j => qF (τ 173) i j + qF (τ 173) j i) (c := 2) ((τ 173 3).toNat - (i + 1)) (i + 1) (fun j _ _ => by have a1 := qF_z (τ 173) i j; have a2 := qF_z (τ 173) j i; omega)
      have step : Gl_crossings_4_b σ 2 x (i : Int) = some (.inl (x + smf (fun j => qF (τ 173) i j + qF (τ 173) j i) (i + 1) ((τ 173 3).toNat - (i + 1)), (i : Int) + 1)) := by
        unfold Gl_crossings_4_b
        rw [hT.2.2.1, if_pos (by omega), ll_q, wr_q (by omega) (by omega), show (i : Int) + 1 = ((i + 1 : Nat) : Int) by omega]
        rw [inner i (by omega) ((τ 173 3).toNat - (i + 1)) (i + 1) (by omega) (by omega) x (by omega)]
        rfl
      have h1 : Gl_crossings_4_w σ 2 x (i : Int) = Gl_crossings_4_w σ 2 (x + smf (fun j => qF (τ 173) i j + qF (τ 173) j i) (i + 1) ((τ 173 3).toNat - (i + 1))) ((i : Int) + 1) := wl_go step
      rw [h1, show (i : Int) + 1 = ((i + 1 : Nat) : Int) by omega, ih (i + 1) (by omega) _ (by omega)]
      show some (x + _ + smf _ (i + 1) m) = some (x + (_ + smf _ (i + 1) m))
      rw [Int.add_assoc]
  unfold Gl_crossings
  have := outer (τ 173 3).toNat 0 (by omega) 0 (by omega)
  rw [show ((0 : Nat) : Int) = 0 from rfl] at this
  rw [this, Int.zero_add]
theorem p_crossed (h : Inv σ τ) : Same1 (Td_crossed σ) (Mo_crossed τ) := by
  obtain ⟨⟨hT, hW, hM, hS, hB⟩, hP, hI, hR⟩ := h
  unfold Td_crossed
  rw [crossC hT hW, crossM hW, b1_q, smf_pairs (qF (τ 173)) (fun a => by unfold qF; rw [if_neg (by omega)])]
  exact ⟨_, rfl, rfl⟩
end Crossed
