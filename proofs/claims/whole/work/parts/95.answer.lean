/-! one answers a message, on both sides -/
theorem su_x {σ : Sg} {k j k' j' : Nat} {v v' : Int} (h : k ≠ k' ∨ j ≠ j') : su (su σ k j v) k' j' v' = su (su σ k' j' v') k j v := by
  funext a b
  unfold su
  by_cases e1 : a = k ∧ b = j
  · have : ¬ (a = k' ∧ b = j') := by omega
    rw [if_neg this, if_pos e1]
    rw [if_pos e1]
  · by_cases e2 : a = k' ∧ b = j'
    · rw [if_pos e2, if_neg e1, if_pos e2]
    · rw [if_neg e2, if_neg e1, if_neg e1, if_neg e2]
theorem notes_x {τ τ' : Sg} {a b c v : Int} {j : Nat} (hj : j = 6 ∨ j = 7) (h2 : 0 ≤ τ 173 2 ∧ τ 173 2 ≤ 150) (h : Mo_notes a b c τ = some τ') : Mo_notes a b c (su τ 173 j v) = some (su τ' 173 j v) := by
  have e172 : su τ 173 j v 172 = τ 172 := su_c (by decide)
  have e2 : su τ 173 j v 173 2 = τ 173 2 := by rw [su_s, up_n (by omega)]
  have e0 : su τ 173 j v 173 0 = τ 173 0 := by rw [su_s, up_n (by omega)]
  unfold Mo_notes at h ⊢
  rw [e172, e2, e0]
  by_cases z : τ 172 26 = 0
  · rw [if_pos z] at h ⊢; cases h; rfl
  · rw [if_neg z] at h ⊢
    by_cases z2 : τ 173 2 = 150
    · rw [if_pos z2] at h ⊢; cases h; rfl
    · rw [if_neg z2] at h ⊢
      obtain ⟨m, hm⟩ := Int.eq_ofNat_of_zero_le h2.1
      have hm : τ 173 2 = (m : Int) := hm
      rw [hm, wr_q (by omega) (by omega), ll_q, ix_q (by omega) (by omega), ll_q, ix_q (by omega) (by omega), ll_q, ix_q (by omega) (by omega), ll_q, ix_q (by omega) (by omega), ll_q] at h ⊢
      have p1 : ∀ (X : Sg), X 173 2 = (m : Int) → ll (su X 173 2 (wr (X 173 2 + 1))) (fun σ12 => (some σ12 : Option Sg)) = some (su X 173 2 ((m : Int) + 1)) := fun X hX => by rw [hX, wr_q (by omega) (by omega)]; rfl
      rw [p1 _ (by rw [su_s, up_n (by omega), su_s, up_n (by omega), su_s, up_n (by omega), su_s, up_n (by omega)]; exact hm)] at h
      rw [p1 _ (by rw [su_s, up_n (by omega), su_s, up_n (by omega), su_s, up_n (by omega), su_s, up_n (by omega)]; exact e2.trans hm)]
      cases h
      congr 1
      rw [su_x (σ := τ) (.inr (by omega)), su_x (k' := 173) (j' := (733 + 4 * (m : Int) + 1).toNat) (.inr (by omega)), su_x (k' := 173) (j' := (733 + 4 * (m : Int) + 2).toNat) (.inr (by omega)), su_x (k' := 173) (j' := (733 + 4 * (m : Int) + 3).toNat) (.inr (by omega)), su_x (k' := 173) (j' := 2) (.inr (by omega))]
section Answer
variable {t : Nat} {th : Int} {σ τ : Sg}
theorem CR.an1 (h : CR t th σ τ) {i : Nat} (hi : (i : Int) < τ 173 3) (h8 : mW (τ 173) i 8 = τ 173 0) : ∃ σ' τ', Co_answerOne (i : Int) (su (su σ (t + 12) i (-1)) t 5 (σ t 5 - 1)) = some σ' ∧ Mo_answers (i : Int) τ = some τ' ∧ CR t th σ' τ' ∧ FR t σ σ' τ τ' ∧ τ' 173 0 = τ 173 0 ∧ τ 173 3 ≤ τ' 173 3 ∧ mW (τ' 173) i 8 = -1 ∧ (∀ k : Nat, k ≠ i → (k : Int) < τ 173 3 → mW (τ' 173) k 8 = mW (τ 173) k 8) ∧ ∀ k : Nat, τ 173 3 ≤ k → (k : Int) < τ' 173 3 → mW (τ' 173) k 8 = -1 := by
  have htt := h.tt
  have htk := h.tkk
  have b60 := h.WF.2.2.1
  have b0 := h.WF.1
  have hM := h.WF.2.2.2.2 i hi
  have m0 := hM.1
  have m1 := hM.2.1
  have m2 : mW (τ 173) i 2 ≠ -1 := by
    rcases hM.2.2.2.2.2.2.2.2.1 with z | z
    · omega
    · exact z.2.2
  have m12 : mW (τ 173) i 1 < τ 173 0 := by
    rcases hM.2.2.1 with z | z
    · exact absurd z m2
    · omega
  obtain ⟨o, ho⟩ := Int.eq_ofNat_of_zero_le (show 0 ≤ 1 - mW (τ 173) i 0 by omega)
  have ho : 1 - mW (τ 173) i 0 = (o : Int) := ho
  have ho2 : o < 2 := by omega
  clear hM
  obtain ⟨A1, A2⟩ := h.und hi (by omega)
  have wA : su τ 173 (8 + 9 * i + 8) (-1) 173 = up (τ 173) (8 + 9 * i + 8) (-1) := su_s
  have lA : ∀ j, j < 8 → su τ 173 (8 + 9 * i + 8) (-1) 173 j = τ 173 j := fun j hj => by rw [wA, up_n (by omega)]
  have mA : ∀ k f, f < 9 → (k ≠ i ∨ f ≠ 8) → mW (su τ 173 (8 + 9 * i + 8) (-1) 173) k f = mW (τ 173) k f := fun k f a b => by rw [wA, mW_ne (by decide) a b]
  have mA8 : mW (su τ 173 (8 + 9 * i + 8) (-1) 173) i 8 = -1 := by rw [wA, mW_at]
  have hiA : (i : Int) < su τ 173 (8 + 9 * i + 8) (-1) 173 3 := by rw [lA 3 (by decide)]; exact hi
  obtain ⟨σC1, σC, τC, f1, f2, f3, f4, f5, f6, f7, f8⟩ := A1.jud hiA
  rw [mA i 0 (by decide) (.inr (by decide)), mA i 3 (by decide) (.inr (by decide)), mA i 4 (by decide) (.inr (by decide)), mA i 5 (by decide) (.inr (by decide)), ho] at f7 f8
  rw [mA i 0 (by decide) (.inr (by decide)), ho] at f1
  rw [mA i 3 (by decide) (.inr (by decide)), mA i 4 (by decide) (.inr (by decide)), mA i 5 (by decide) (.inr (by decide))] at f2
  obtain ⟨C1, C2⟩ := A1.scr (σ' := σC) (τ' := τC) (fun c _ b _ => f5 c b) (fun c _ b => f6 c b)
  have hFC : ∀ j, j < 10 → σC 150 j = τC 182 (j + 1) := fun j hj => by rw [f7 j hj, f8 (j + 1) (by omega) (by omega)]
  -- how long, how many kisses
  obtain ⟨σD, g1, g2⟩ := tvC C1.LR hFC (word := 1) (by decide)
  obtain ⟨τD, k1, k2⟩ := (tvM C1.LR (τ := τC)).2.1
  obtain ⟨D1, D2⟩ := C1.scr (σ' := σD) (τ' := τD) (fun c a b d => g2.1 c d a) (fun c a _ => k2 c a)
  have hFD : ∀ j, j < 10 → σD 150 j = τD 182 (j + 1) := fun j hj => by rw [g2.1 150 (by decide) (by decide), k2 182 (by decide)]; exact hFC j hj
  obtain ⟨σE, e1, e2⟩ := tvC D1.LR hFD (word := 2) (by decide)
  obtain ⟨τE, l1, l2⟩ := (tvM D1.LR (τ := τD)).2.2.1
  obtain ⟨E1, E2⟩ := D1.scr (σ' := σE) (τ' := τE) (fun c a b d => e2.1 c d a) (fun c a _ => l2 c a)
  have wE : τE 173 = su τ 173 (8 + 9 * i + 8) (-1) 173 := by rw [l2 _ (by decide), k2 _ (by decide), f6 _ (by decide)]
  have v1 := (tv_in (τC 173) (τC 182)).2.1
  have v2 := (tv_in (τD 173) (τD 182)).2.2.1
  generalize tvF (τC 173) (τC 182) 1 = lg at g1 k1 v1
  generalize tvF (τD 173) (τD 182) 2 = ks at e1 l1 v2
  have q3 : (σC1 152 2).toNat = t := by rw [f4 152 (by decide)]; exact A1.tn
  have q4 : σC1 (t + 7) i = mW (τ 173) i 3 := by rw [f4 _ (by omega), (TR.g A1.TR hiA).2.2.2.1, mA i 3 (by decide) (.inr (by decide))]
  have q5 : σC1 (t + 8) i = mW (τ 173) i 4 := by rw [f4 _ (by omega), (TR.g A1.TR hiA).2.2.2.2.1, mA i 4 (by decide) (.inr (by decide))]
  have q6 : σC1 (t + 9) i = mW (τ 173) i 5 := by rw [f4 _ (by omega), (TR.g A1.TR hiA).2.2.2.2.2.1, mA i 5 (by decide) (.inr (by decide))]
  have q0 : su (su σ (t + 12) i (-1)) t 5 (σ t 5 - 1) (t + 4) i = mW (τ 173) i 0 := by rw [(TR.g A1.TR hiA).1, mA i 0 (by decide) (.inr (by decide))]
  have qE : σE (t + 1) o = τ 173 (4 + o) := by rw [(E1.TR.2.2.2.2.2.2.1 o ho2).1, wE, lA _ (by omega)]
  have hst : ∀ x : Int, (if x < 50 then some (0 : Int) else some 1) = some (if x < 50 then 0 else 1) := fun x => by split <;> rfl
  have hst2 : ((if τ 173 (4 + o) < 50 then (0 : Int) else 1) = 0 ∨ (if τ 173 (4 + o) < 50 then (0 : Int) else 1) = 1) := by split <;> simp
  generalize hstop : (if τ 173 (4 + o) < 50 then (0 : Int) else 1) = sp at hst2
  have p1 := goesTo_q (τ := τ) (i := i) (by omega) m0
  have p2 : Mo_puts0 (i : Int) 8 (-1) τ = some (su τ 173 (8 + 9 * i + 8) (-1)) := puts_q (f := 8) (by omega) (by decide)
  by_cases full : τ 173 3 = 60
  · obtain ⟨G1, G2⟩ := A1.scr (σ' := σE) (τ' := su τ 173 (8 + 9 * i + 8) (-1)) (fun c a b d => by rw [e2.1 c d a, g2.1 c d a, f5 c b]) (fun _ _ _ => rfl)
    refine ⟨σE, _, ?_, ?_, G1, A2.trans G2, lA 0 (by decide), by rw [lA 3 (by decide)]; exact Int.le_refl _, mA8, fun k a b => mA k 8 (by decide) (.inl a), fun k a b => ?_⟩
    · unfold Co_answerOne
      rw [A1.tn, isT_q htk, ix_q (by omega) (by omega), Int.toNat_natCast, q0, ho, wr_q (n := (o : Int)) (by omega) (by omega), ll_q, isT_q htk, f1, b1_q, q3, isT_q htk, ix_q (by omega) (by omega), isT_q htk, ix_q (by omega) (by omega), isT_q htk, ix_q (by omega) (by omega), q4, q5, q6, f2, b1_q, g1, b2_q, e1, b2_q, E1.tn, isT_q htk, isT_q htk, ix_q (by omega) (by omega), Int.toNat_natCast, qE, hst, b1_q]
      unfold Ta_add Ta_isFull
      rw [E1.TR.2.2.1, wE, lA 3 (by decide), full, if_neg (by decide), b1_q, if_neg (by decide), b2_q, if_pos rfl]
    · unfold Mo_answers
      rw [p1, b1_q, p2, b1_q, lA 3 (by decide), if_pos full]
    · rw [lA 3 (by decide)] at b; omega
  · obtain ⟨n, hn⟩ := Int.eq_ofNat_of_zero_le b60.1
    have hn : τ 173 3 = (n : Int) := hn
    have n60 : n < 60 := by omega
    have hnE : τE 173 3 = n := by rw [wE, lA 3 (by decide)]; exact hn
    obtain ⟨σG, τG, r1, r2, G1, G2, r3, r4, r5, r6, r7, r8⟩ := E1.add hnE n60 (one := (o : Int)) (l := lg) (k := ks) (s := sp) (to := (i : Int)) (by omega) v1 v2 hst2 (.inr ⟨i, by omega, rfl, by rw [wE, mA i 0 (by decide) (.inr (by decide))]; omega, by rw [wE, mA i 1 (by decide) (.inr (by decide)), lA 0 (by decide)]; exact m12⟩)
    have w0G : τG 173 0 = τ 173 0 := by rw [r3 0 (by decide) (by decide), wE, lA 0 (by decide)]
    have m1G : mW (τG 173) i 1 = mW (τ 173) i 1 := by rw [r5 i 1 (by omega) (by decide), wE, mA i 1 (by decide) (.inr (by decide))]
    have hiG : (i : Int) < τG 173 3 := by omega
    obtain ⟨H1, H2⟩ := G1.tok (one := 1 - o) (by omega) (v := min 9999 (τ 173 0 - mW (τ 173) i 1)) (by omega)
    generalize hv : min 9999 (τ 173 0 - mW (τ 173) i 1) = tk' at H1 H2
    obtain ⟨σN, τN, n1, n2, N1, N2, n5, n6, n7, n8⟩ := H1.note 2 (o : Int) (n : Int)
    obtain ⟨σG', τG', n1', n2', -, -, n5', -, -, n8'⟩ := G1.note 2 (o : Int) (n : Int)
    have eN : τN = su τG' 173 (6 + (1 - o)) tk' := by
      have := notes_x (j := 6 + (1 - o)) (v := tk') (by omega) G1.WF.2.1 n2'
      rw [n2] at this
      exact Option.some.inj this
    have w0N : τN 173 0 = τ 173 0 := by rw [n5 0 (by decide) (by decide), su_s, up_n (by omega)]; exact w0G
    have w3N : τN 173 3 = n + 1 := by rw [n5 3 (by decide) (by decide), su_s, up_n (by omega)]; exact r4
    have m8N : ∀ k : Nat, k < 60 → mW (τN 173) k 8 = mW (τG 173) k 8 := fun k hk => by
      show τN 173 (8 + 9 * k + 8) = τG 173 (8 + 9 * k + 8)
      rw [n5 _ (by omega) (by omega), su_s, up_n (by omega)]
    refine ⟨σN, τN, ?_, ?_, N1, (((((A2.trans C2).trans D2).trans E2).trans G2).trans H2).trans N2, w0N, by omega, ?_, fun k a b => ?_, fun k a b => ?_⟩
    · unfold Co_answerOne
      have z1 : (σG 152 2).toNat = t := G1.tn
      have z2 : σG t 0 = τ 173 0 := by rw [G1.TR.1, w0G]
      have z3 : σG (t + 5) i = mW (τ 173) i 1 := by rw [(TR.g G1.TR hiG).2.1, m1G]
      rw [A1.tn, isT_q htk, ix_q (by omega) (by omega), Int.toNat_natCast, q0, ho, wr_q (n := (o : Int)) (by omega) (by omega), ll_q, isT_q htk, f1, b1_q, q3, isT_q htk, ix_q (by omega) (by omega), isT_q htk, ix_q (by omega) (by omega), isT_q htk, ix_q (by omega) (by omega), q4, q5, q6, f2, b1_q, g1, b2_q, e1, b2_q, E1.tn, isT_q htk, isT_q htk, ix_q (by omega) (by omega), Int.toNat_natCast, qE, hst, b1_q, hstop, r1, b2_q, if_neg (by omega), z1, isT_q htk, isT_q htk, isT_q htk, ix_q (by omega) (by omega), z2, z3, wr_q (by omega) (by omega), min_q, hv, b1_q, ix_q (by omega) (by omega), show (1 - (o : Int)).toNat = 1 - o by omega, ll_q, n1, b1_q]
    · unfold Mo_answers
      have y1 : Mo_of0 (i : Int) 1 τG' = some (mW (τ 173) i 1) := by
        rw [of_1 (by omega), ← m1G]
        show some (τG' 173 (8 + 9 * i + 1)) = _
        rw [n5' _ (by omega) (by omega)]; rfl
      have y2 : τG' 173 0 = τ 173 0 := by rw [n5' 0 (by decide) (by decide), w0G]
      rw [p1, b1_q, ho, p2, b1_q, lA 3 (by decide), if_neg full, f3, b1_q, k1, b2_q, l1, b2_q, ix_q (by omega) (by omega), show (4 + (o : Int)).toNat = 4 + o by omega, wE, lA (4 + o) (by omega), hst, b1_q, hstop, r2, b2_q, n2', b1_q, y1, b1_q, y2, wr_q (by omega) (by omega), lesser_q, hv, b1_q, ix_q (by omega) (by omega), show (7 - (o : Int)).toNat = 6 + (1 - o) by omega, ll_q, ← eN]
    · rw [m8N i (by omega), r5 i 8 (by omega) (by decide), wE]; exact mA8
    · rw [m8N k (by omega), r5 k 8 (by omega) (by decide), wE]; exact mA k 8 (by decide) (.inl a)
    · have : k = n := by omega
      subst this
      rw [m8N k (by omega), r6 8 (by decide)]; rfl
end Answer
