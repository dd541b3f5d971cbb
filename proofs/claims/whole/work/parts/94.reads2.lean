/-! one reads a message: the whole of it -/
section Reads2
variable {t : Nat} {th : Int} {σ τ : Sg}
theorem CR.rd1 (h : CR t th σ τ) {i : Nat} (hi : (i : Int) < τ 173 3) (h2 : mW (τ 173) i 2 = -1) (h7 : mW (τ 173) i 7 = 0) (h1 : mW (τ 173) i 1 < τ 173 0) : ∃ σ' τ', Co_readOne (i : Int) σ = some σ' ∧ Mo_reads0 (i : Int) τ = some τ' ∧ CR t th σ' τ' ∧ FR t σ σ' τ τ' ∧ τ' 173 0 = τ 173 0 ∧ τ' 173 3 = τ 173 3 := by
  have htt := h.tt
  have b60 := h.WF.2.2.1
  have b0 := h.WF.1
  have hM := h.WF.2.2.2.2 i hi
  have m0 := hM.1
  have m1 := hM.2.1
  have m8 : mW (τ 173) i 8 = -1 := by
    rcases hM.2.2.2.2.2.2.2.2.1 with z | z
    · exact z
    · exact absurd h2 z.2.2
  obtain ⟨o, ho⟩ := Int.eq_ofNat_of_zero_le (show 0 ≤ 1 - mW (τ 173) i 0 by omega)
  have ho : 1 - mW (τ 173) i 0 = (o : Int) := ho
  have ho2 : o < 2 := by omega
  have s4 : σ t 4 = opn (τ 173) (τ 173 3).toNat := h.TR.2.2.2.2.1
  have b4 := opn_nn (w := τ 173) (τ 173 3).toNat
  -- read
  obtain ⟨A1, A2⟩ := h.red hi h2 h7 h1
  -- noted
  obtain ⟨σB, τB, n1, n2, B1, B2, n5, n6, n7, n8⟩ := A1.note 1 (o : Int) (i : Int)
  have wB : ∀ j, j < 548 → j ≠ 2 → j ≠ 8 + 9 * i + 2 → τB 173 j = τ 173 j := fun j a b c => by rw [n5 j a b, su_s, up_n c]
  have mB : ∀ f, f < 9 → f ≠ 2 → mW (τB 173) i f = mW (τ 173) i f := fun f a b => wB _ (by omega) (by omega) (by omega)
  have hiB : (i : Int) < τB 173 3 := by rw [wB 3 (by decide) (by decide) (by omega)]; exact hi
  -- the facts
  obtain ⟨σC1, σC, τC, f1, f2, f3, f4, f5, f6, f7, f8⟩ := B1.jud hiB
  rw [mB 0 (by decide) (by decide), mB 3 (by decide) (by decide), mB 4 (by decide) (by decide), mB 5 (by decide) (by decide), ho] at f7 f8
  rw [mB 0 (by decide) (by decide), ho] at f1
  rw [mB 3 (by decide) (by decide), mB 4 (by decide) (by decide), mB 5 (by decide) (by decide)] at f2
  obtain ⟨C1, C2⟩ := B1.scr (σ' := σC) (τ' := τC) (fun c _ b _ => f5 c b) (fun c _ b => f6 c b)
  have hFC : ∀ j, j < 10 → σC 150 j = τC 182 (j + 1) := fun j hj => by rw [f7 j hj, f8 (j + 1) (by omega) (by omega)]
  -- the hurt
  obtain ⟨σD, g1, g2⟩ := tvC C1.LR hFC (word := 3) (by decide)
  obtain ⟨τD, k1, k2⟩ := (tvM C1.LR (τ := τC)).2.2.2.1
  obtain ⟨D1, D2⟩ := C1.scr (σ' := σD) (τ' := τD) (fun c a b d => g2.1 c d a) (fun c a _ => k2 c a)
  have v3 := (tv_in (τC 173) (τC 182)).2.2.2.1
  have crB := B1.WF.2.2.2.1 o ho2
  have eCB : τC 173 = τB 173 := f6 _ (by decide)
  have eDB : τD 173 = τB 173 := (k2 _ (by decide)).trans eCB
  have sC : σC (t + 1) o = τB 173 (4 + o) := by rw [f5 _ (by omega)]; exact (B1.TR.2.2.2.2.2.2.1 o ho2).1
  generalize hx : tvF (τC 173) (τC 182) 3 = x at g1 k1 v3
  obtain ⟨E1, E2⟩ := D1.crs ho2 (v := max 0 (min 99 (τB 173 (4 + o) + x))) (by omega)
  generalize hr : max 0 (min 99 (τB 173 (4 + o) + x)) = r at E1 E2
  have eE : su τD 173 (4 + o) r 173 = up (τB 173) (4 + o) r := by rw [su_s, eDB]
  have hiE : (i : Int) < su τD 173 (4 + o) r 173 3 := by rw [eE, up_n (by omega)]; exact hiB
  have mE : ∀ f, f < 9 → mW (su τD 173 (4 + o) r 173) i f = mW (τB 173) i f := fun f a => by rw [eE, mW_low (by omega)]
  -- the facts anew
  obtain ⟨τF, l1, l2, l3⟩ := laysMsgM E1.HR E1.WF hiE
  rw [mE 0 (by decide), mE 3 (by decide), mE 4 (by decide), mE 5 (by decide), mB 0 (by decide) (by decide), mB 3 (by decide) (by decide), mB 4 (by decide) (by decide), mB 5 (by decide) (by decide), ho] at l3
  obtain ⟨F1, F2⟩ := E1.scr (σ' := su (su σD (t + 1) o r) 150 1 r) (τ' := τF) (fun c _ b _ => su_c b) (fun c _ b => l2 c b)
  have hFF : ∀ j, j < 10 → su (su σD (t + 1) o r) 150 1 r 150 j = τF 182 (j + 1) := fun j hj => by
    rw [l3 (j + 1) (by omega) (by omega), fcF_ag B1.HR ho2 eE (j + 1) (by omega) (by omega), su_s]
    by_cases e : j = 1
    · rw [e, up_a, if_pos rfl]
    · rw [up_n e, if_neg (by omega), su_c (by omega), g2.1 150 (by decide) (by decide), f7 j hj]
  have eF : τF 173 = up (τB 173) (4 + o) r := (l2 _ (by decide)).trans eE
  have mF : ∀ f, f < 9 → mW (τF 173) i f = mW (τB 173) i f := fun f a => by rw [eF, mW_low (by omega)]
  have m2B : mW (τB 173) i 2 = τ 173 0 := by
    show τB 173 (8 + 9 * i + 2) = _
    rw [n5 _ (by omega) (by omega), su_s, up_a]
  obtain ⟨σ', τ', d1, d2, d3, d4, d5, d6⟩ := F1.gos (i := i) (by rw [eF, up_n (by omega)]; exact hiB) (by rw [mF 8 (by decide), mB 8 (by decide) (by decide)]; exact m8) (by rw [mF 2 (by decide), m2B]; omega) (one := (o : Int)) (by omega) hFF
  refine ⟨σ', τ', ?_, ?_, d3, ((((((A2.trans B2).trans C2).trans D2).trans E2).trans F2).trans d4), ?_, ?_⟩
  · unfold Co_readOne
    have q1 : su σ (t + 6) i (τ 173 0) 152 = σ 152 := su_c (by omega)
    have q2 : su σ (t + 6) i (τ 173 0) t 4 = σ t 4 := by rw [su_c (by omega)]
    have q3 : (σC1 152 2).toNat = t := by rw [f4 152 (by decide)]; exact B1.tn
    have q4 : σC1 (t + 7) i = mW (τ 173) i 3 := by rw [f4 _ (by omega), (TR.g B1.TR hiB).2.2.2.1, mB 3 (by decide) (by decide)]
    have q5 : σC1 (t + 8) i = mW (τ 173) i 4 := by rw [f4 _ (by omega), (TR.g B1.TR hiB).2.2.2.2.1, mB 4 (by decide) (by decide)]
    have q6 : σC1 (t + 9) i = mW (τ 173) i 5 := by rw [f4 _ (by omega), (TR.g B1.TR hiB).2.2.2.2.2.1, mB 5 (by decide) (by decide)]
    have q7 : su σD (t + 1) o r 152 = σD 152 := su_c (by omega)
    have q8 : su σD (t + 1) o r (t + 1) o = r := by rw [su_s, up_a]
    have htk := h.tkk
    rw [h.tn, isT_q htk, ix_q (by omega) (by omega), Int.toNat_natCast, (TR.g h.TR hi).1, ho, wr_q (n := (o : Int)) (by omega) (by omega), ll_q, isT_q htk, isT_q htk, ix_q (by omega) (by omega), h.TR.1, ll_q, q1, h.tn, isT_q htk, q2, wr_q (n := σ t 4 - 1) (by omega) (by omega), ll_q, n1, b1_q, B1.tn, isT_q htk, f1, b1_q, q3, isT_q htk, ix_q (by omega) (by omega), isT_q htk, ix_q (by omega) (by omega), isT_q htk, ix_q (by omega) (by omega), q4, q5, q6, f2, b1_q, C1.tn, isT_q htk, ix_q (by omega) (by omega), g1, b2_q, Int.toNat_natCast, sC, wr_q (n := τB 173 (4 + o) + x) (by omega) (by omega), ll_q, D1.tn, isT_q htk, min_q, b1_q, max_q, b1_q, hr, ix_q (by omega) (by omega), ll_q, q7, D1.tn, isT_q htk, ix_q (by omega) (by omega), q8, ll_q]
    exact d1
  · unfold Mo_reads0
    have p1 := goesTo_q (τ := τ) (i := i) (by omega) m0
    have p2 : Mo_puts0 (i : Int) 2 (τ 173 0) τ = some (su τ 173 (8 + 9 * i + 2) (τ 173 0)) := puts_q (f := 2) (by omega) (by decide)
    rw [p1, b1_q, ho, p2, b1_q, n2, b1_q, f3, b1_q, ix_q (by omega) (by omega), k1, b2_q, show (4 + (o : Int)).toNat = 4 + o by omega, eCB, wr_q (n := τB 173 (4 + o) + x) (by omega) (by omega), held_q, b1_q, hr, ix_q (by omega) (by omega), ll_q, l1, b1_q]
    exact d2
  · rw [d5, eF, up_n (by omega), wB 0 (by decide) (by decide) (by omega)]
  · rw [d6, eF, up_n (by omega), wB 3 (by decide) (by decide) (by omega)]
end Reads2
