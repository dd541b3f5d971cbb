/-! until when nothing happens -/
def hrM (m : Int) : Int := Int.tmod (Int.tdiv m 60) 24
section Quiet
variable {t : Nat} {th : Int} {σ τ : Sg}
def opF (w : Nat → Int) (i : Nat) : Prop := mW w i 2 = -1 ∧ mW w i 7 = 0
/-- can someone read something now -/
theorem scR (h : CR t th σ τ) {n : Nat} (hn : τ 173 3 = n) : ∃ r, Co_someoneCanRead σ = some r ∧ (r ≠ 0 ∨ (r = 0 ∧ ∀ i : Nat, i < n → opF (τ 173) i → rdF (τ 173) (1 - mW (τ 173) i 0) (hrF (τ 173)) = 0)) := by
  have htk := h.tkk
  have b60 := h.WF.2.2.1
  have hh := hour_in h.WF.1.1
  have key : ∀ m i : Nat, i + m = n → (∀ k : Nat, k < i → opF (τ 173) k → rdF (τ 173) (1 - mW (τ 173) k 0) (hrF (τ 173)) = 0) → ∃ r, Co_someoneCanRead_34_w σ (rdF (τ 173) 0 (hrF (τ 173))) (rdF (τ 173) 1 (hrF (τ 173))) (i : Int) = some r ∧ (r ≠ 0 ∨ (r = 0 ∧ ∀ i : Nat, i < n → opF (τ 173) i → rdF (τ 173) (1 - mW (τ 173) i 0) (hrF (τ 173)) = 0)) := by
    intro m
    induction m with
    | zero =>
      intro i hi hk
      refine ⟨0, wl_end ?_, .inr ⟨rfl, fun k hk' => hk k (by omega)⟩⟩
      show Co_someoneCanRead_34_b σ _ _ (i : Int) = _
      unfold Co_someoneCanRead_34_b
      rw [h.tn, isT_q htk, h.TR.2.2.1, hn, if_neg (by omega)]
    | succ m ih =>
      intro i hi hk
      have hi3 : (i : Int) < τ 173 3 := by omega
      have io := isOpen_q h.TR hi3 b60.2
      have s0 := (TR.g h.TR hi3).1
      have m0 := (h.WF.2.2.2.2 i hi3).1
      by_cases hz : rdF (τ 173) 0 (hrF (τ 173)) = 0 ∧ rdF (τ 173) 1 (hrF (τ 173)) = 0
      · refine ⟨0, wl_end ?_, .inr ⟨rfl, fun k hk' _ => ?_⟩⟩
        · show Co_someoneCanRead_34_b σ _ _ (i : Int) = _
          unfold Co_someoneCanRead_34_b
          rw [h.tn, isT_q htk, h.TR.2.2.1, hn, if_pos (by omega), hz.1, hz.2, i00, i00, b1_q, i00]
        · rcases (h.WF.2.2.2.2 k (by omega)).1 with y | y
          · rw [y]; exact hz.2
          · rw [y]; exact hz.1
      · have t23 : (if rdF (τ 173) 0 (hrF (τ 173)) = 0 then if rdF (τ 173) 1 (hrF (τ 173)) = 0 then some 0 else some 1 else some 1) = some (1 : Int) := by
          by_cases a : rdF (τ 173) 0 (hrF (τ 173)) = 0
          · rw [if_pos a, if_neg (fun b => hz ⟨a, b⟩)]
          · rw [if_neg a]
        have next : Co_someoneCanRead_34_b σ (rdF (τ 173) 0 (hrF (τ 173))) (rdF (τ 173) 1 (hrF (τ 173))) (i : Int) = some (.inl ((i : Int) + 1)) → (opF (τ 173) i → rdF (τ 173) (1 - mW (τ 173) i 0) (hrF (τ 173)) = 0) → ∃ r, Co_someoneCanRead_34_w σ (rdF (τ 173) 0 (hrF (τ 173))) (rdF (τ 173) 1 (hrF (τ 173))) (i : Int) = some r ∧ (r ≠ 0 ∨ (r = 0 ∧ ∀ i : Nat, i < n → opF (τ 173) i → rdF (τ 173) (1 - mW (τ 173) i 0) (hrF (τ 173)) = 0)) := fun e1 e2 => by
          obtain ⟨r, r1, r2⟩ := ih (i + 1) (by omega) (fun k hk' => by
            by_cases e : k = i
            · rw [e]; exact e2
            · exact hk k (by omega))
          exact ⟨r, (wl_go e1).trans r1, r2⟩
        by_cases y : mW (τ 173) i 2 = -1 ∧ mW (τ 173) i 7 = 0
        · rw [if_pos y] at io
          by_cases x : rdF (τ 173) (1 - mW (τ 173) i 0) (hrF (τ 173)) = 0
          · refine next ?_ (fun _ => x)
            unfold Co_someoneCanRead_34_b
            rw [h.tn, isT_q htk, h.TR.2.2.1, hn, if_pos (by omega), t23, b1_q, if_neg (by decide), isT_q htk, io, b1_q, if_neg (by decide), isT_q htk, ix_q (by omega) (by omega), Int.toNat_natCast, s0, wr_q (by omega) (by omega)]
            rcases m0 with z | z
            · rw [z, show (1 : Int) - 0 = 1 from rfl] at x
              rw [z, if_neg (by decide), x, i00, ll_q]
            · rw [z, show (1 : Int) - 1 = 0 from rfl] at x
              rw [z, if_pos rfl, x, i00, ll_q]
          · refine ⟨1, wl_end ?_, .inl (by decide)⟩
            show Co_someoneCanRead_34_b σ _ _ (i : Int) = _
            unfold Co_someoneCanRead_34_b
            rw [h.tn, isT_q htk, h.TR.2.2.1, hn, if_pos (by omega), t23, b1_q, if_neg (by decide), isT_q htk, io, b1_q, if_neg (by decide), isT_q htk, ix_q (by omega) (by omega), Int.toNat_natCast, s0]
            rcases m0 with z | z
            · rw [z, show (1 : Int) - 0 = 1 from rfl] at x
              rw [z, if_neg (by decide), if_neg x]
            · rw [z, show (1 : Int) - 1 = 0 from rfl] at x
              rw [z, if_pos rfl, if_neg x]
        · rw [if_neg y] at io
          refine next ?_ (fun z => absurd z y)
          unfold Co_someoneCanRead_34_b
          rw [h.tn, isT_q htk, h.TR.2.2.1, hn, if_pos (by omega), t23, b1_q, if_neg (by decide), isT_q htk, io, b1_q, i00, wr_q (by omega) (by omega), ll_q]
  obtain ⟨r, r1, r2⟩ := key n 0 (by omega) (fun k hk => (by omega))
  refine ⟨r, ?_, r2⟩
  unfold Co_someoneCanRead Ta_hour
  rw [h.tn, isT_q htk, b1_q, h.TR.1, readsC h.HR hh, b1_q, isT_q htk, b1_q, readsC h.HR hh, b1_q]
  exact r1
/-- the class: the answers that wait -/
theorem qu1 (h : CR t th σ τ) {n : Nat} (hn : τ 173 3 = n) : ∀ (m i : Nat) (v : Int), i + m = n → τ 173 0 ≤ v → (∀ k : Nat, k < i → mW (τ 173) k 8 < τ 173 0 ∨ v ≤ mW (τ 173) k 8) → ∃ v', Co_quietUntil_114_w σ (τ 173 0) v (i : Int) = some (.inr v') ∧ (τ 173 0 ≤ v' ∧ v' ≤ v) ∧ ∀ k : Nat, k < n → mW (τ 173) k 8 < τ 173 0 ∨ v' ≤ mW (τ 173) k 8
  | 0, i, v, hi, hv, hk => by
    refine ⟨v, wl_end ?_, by omega, fun k hk' => hk k (by omega)⟩
    show Co_quietUntil_114_b σ (τ 173 0) v (i : Int) = _
    unfold Co_quietUntil_114_b
    rw [h.tn, isT_q h.tkk, h.TR.2.2.1, hn, if_neg (by omega)]
  | m + 1, i, v, hi, hv, hk => by
    have htk := h.tkk
    have b60 := h.WF.2.2.1
    have b0 := h.WF.1
    have hi3 : (i : Int) < τ 173 3 := by omega
    have s8 := (TR.g h.TR hi3).2.2.2.2.2.2.2.2
    have s5 : σ t 5 = awt (τ 173) n := by rw [h.TR.2.2.2.2.2.1, hn, Int.toNat_natCast]
    have b5 := awt_nn (w := τ 173) n
    by_cases z : 0 < σ t 5
    · by_cases y : mW (τ 173) i 8 < τ 173 0
      · obtain ⟨v', r1, r2, r3⟩ := qu1 h hn m (i + 1) v (by omega) hv (fun k hk' => by
          by_cases e : k = i
          · rw [e]; exact .inl y
          · exact hk k (by omega))
        refine ⟨v', (wl_go ?_).trans r1, r2, r3⟩
        show Co_quietUntil_114_b σ (τ 173 0) v (i : Int) = _
        unfold Co_quietUntil_114_b
        rw [h.tn, isT_q htk, h.TR.2.2.1, hn, if_pos (by omega), isT_q htk, if_pos z, isT_q htk, ix_q (by omega) (by omega), Int.toNat_natCast, s8, if_pos y, wr_q (by omega) (by omega), ll_q]
        rfl
      · obtain ⟨v', r1, r2, r3⟩ := qu1 h hn m (i + 1) (min v (mW (τ 173) i 8)) (by omega) (by omega) (fun k hk' => by
          by_cases e : k = i
          · rw [e]; right; omega
          · have := hk k (by omega); omega)
        refine ⟨v', (wl_go ?_).trans r1, by omega, r3⟩
        show Co_quietUntil_114_b σ (τ 173 0) v (i : Int) = _
        unfold Co_quietUntil_114_b
        rw [h.tn, isT_q htk, h.TR.2.2.1, hn, if_pos (by omega), isT_q htk, if_pos z, isT_q htk, ix_q (by omega) (by omega), Int.toNat_natCast, s8, if_neg y, isT_q htk, ix_q (by omega) (by omega), min_q, b1_q, wr_q (by omega) (by omega), ll_q]
        rfl
    · refine ⟨v, wl_end ?_, by omega, fun k hk' => .inl (by rw [awt_zero n (by omega) k hk']; omega)⟩
      show Co_quietUntil_114_b σ (τ 173 0) v (i : Int) = _
      unfold Co_quietUntil_114_b
      rw [h.tn, isT_q htk, h.TR.2.2.1, hn, if_pos (by omega), isT_q htk, if_neg z]
/-- the class: what was told for later -/
theorem qu2 (h : CR t th σ τ) {n : Nat} (hn : τ 173 552 = n) : ∀ (m i : Nat) (v : Int), i + m = n → τ 173 0 ≤ v → (∀ k : Nat, k < i → τ 173 (619 + 5 * k) < τ 173 0 ∨ v ≤ τ 173 (619 + 5 * k)) → ∃ v', Co_quietUntil_70_w σ (τ 173 0) v (i : Int) = Co_quietUntil_70_w σ (τ 173 0) v' (n : Int) ∧ (τ 173 0 ≤ v' ∧ v' ≤ v) ∧ ∀ k : Nat, k < n → τ 173 (619 + 5 * k) < τ 173 0 ∨ v' ≤ τ 173 (619 + 5 * k)
  | 0, i, v, hi, hv, hk => ⟨v, by rw [show i = n by omega], by omega, fun k hk' => hk k (by omega)⟩
  | m + 1, i, v, hi, hv, hk => by
    obtain ⟨s1, s2, s3, s4⟩ := h.SR
    obtain ⟨g1, g2⟩ := s3 (by omega)
    have g2' : σ 23 2 = ((6 * (τ 173 552).toNat : Nat) : Int) := by omega
    have hln : ln (23 + 1) = 96 := by decide +kernel
    have q0 := (s4 i (by omega)).1
    have c0 : Sh_cell 23 (i : Int) 0 σ = some (τ 173 (619 + 5 * i)) := by
      rw [← q0]
      have := cell_q (σ := σ) (s := 23) (i := i) (k := 0) (W := 6) g1 g2' (by omega) (by omega) (by omega)
      rw [show i * 6 + 0 = 6 * i by omega] at this
      exact this
    by_cases y : τ 173 (619 + 5 * i) < τ 173 0
    · obtain ⟨v', r1, r2, r3⟩ := qu2 h hn m (i + 1) v (by omega) hv (fun k hk' => by
        by_cases e : k = i
        · rw [e]; exact .inl y
        · exact hk k (by omega))
      refine ⟨v', (wl_go ?_).trans r1, r2, r3⟩
      show Co_quietUntil_70_b σ (τ 173 0) v (i : Int) = _
      unfold Co_quietUntil_70_b
      rw [s1, hn, if_pos (by omega), c0, b1_q, if_pos y, wr_q (by omega) (by omega), ll_q]
      rfl
    · obtain ⟨v', r1, r2, r3⟩ := qu2 h hn m (i + 1) (min v (τ 173 (619 + 5 * i))) (by omega) (by omega) (fun k hk' => by
        by_cases e : k = i
        · rw [e]; right; omega
        · have := hk k (by omega); omega)
      refine ⟨v', (wl_go ?_).trans r1, by omega, r3⟩
      show Co_quietUntil_70_b σ (τ 173 0) v (i : Int) = _
      unfold Co_quietUntil_70_b
      rw [s1, hn, if_pos (by omega), c0, b1_q, if_neg y, min_q, b1_q, wr_q (by omega) (by omega), ll_q]
      rfl
/-- nothing happens in the minutes ahead of v -/
def quF (w : Nat → Int) (v : Int) : Prop := ∀ m, w 0 ≤ m → m < v → (∀ i : Nat, (i : Int) < w 552 → w (619 + 5 * i) ≠ m) ∧ (∀ i : Nat, (i : Int) < w 3 → mW w i 8 ≠ m) ∧ ¬ Int.tmod (m + 1) 1440 = 240 ∧ ∀ i : Nat, (i : Int) < w 3 → opF w i → rdF w (1 - mW w i 0) (hrM m) = 0
theorem quC (h : CR t th σ τ) : ∃ v, Co_quietUntil σ = some v ∧ (τ 173 0 ≤ v ∧ v ≤ τ 173 0 + 1440) ∧ quF (τ 173) v := by
  have htk := h.tkk
  have b0 := h.WF.1
  have b60 := h.WF.2.2.1
  obtain ⟨n, hn⟩ := Int.eq_ofNat_of_zero_le b60.1
  have hn : τ 173 3 = (n : Int) := hn
  obtain ⟨k, hk⟩ := Int.eq_ofNat_of_zero_le h.SR.2.1.1
  have hk : τ 173 552 = (k : Int) := hk
  have s4 : σ t 4 = opn (τ 173) n := by rw [h.TR.2.2.2.2.1, hn, Int.toNat_natCast]
  have b4 := opn_nn (w := τ 173) n
  have e1 : Int.tmod (τ 173 0) 1440 = τ 173 0 % 1440 := Int.tmod_eq_emod_of_nonneg b0.1
  have e2 : Int.tmod (1679 - τ 173 0 % 1440) 1440 = (1679 - τ 173 0 % 1440) % 1440 := Int.tmod_eq_emod_of_nonneg (by omega)
  have e3 : Int.tmod (τ 173 0) 60 = τ 173 0 % 60 := Int.tmod_eq_emod_of_nonneg b0.1
  have rest : ∀ v0 : Int, τ 173 0 ≤ v0 → v0 ≤ τ 173 0 + (1679 - τ 173 0 % 1440) % 1440 → (∀ m, τ 173 0 ≤ m → m < v0 → ∀ i : Nat, (i : Int) < τ 173 3 → opF (τ 173) i → rdF (τ 173) (1 - mW (τ 173) i 0) (hrM m) = 0) → ∃ v, Co_quietUntil_70_w σ (τ 173 0) v0 0 = some v ∧ (τ 173 0 ≤ v ∧ v ≤ τ 173 0 + 1440) ∧ quF (τ 173) v := by
    intro v0 h1 h2 h3
    obtain ⟨v1, p1, p2, p3⟩ := qu2 h hk k 0 v0 (by omega) h1 (fun k hk => (by omega))
    obtain ⟨v2, q1, q2, q3⟩ := qu1 h hn n 0 v1 (by omega) p2.1 (fun k hk => (by omega))
    refine ⟨v2, ?_, by omega, fun m m1 m2 => ⟨fun i hi => ?_, fun i hi => ?_, ?_, fun i hi ho => h3 m m1 (by omega) i hi ho⟩⟩
    · rw [show Co_quietUntil_70_w σ (τ 173 0) v0 0 = _ from p1]
      refine wl_end ?_
      show Co_quietUntil_70_b σ (τ 173 0) v1 (k : Int) = _
      unfold Co_quietUntil_70_b
      rw [h.SR.1, hk, if_neg (by omega)]
      exact q1
    · have := p3 i (by omega); omega
    · have := q3 i (by omega); omega
    · rw [Int.tmod_eq_emod_of_nonneg (by omega)]; omega
  unfold Co_quietUntil
  rw [h.tn, isT_q htk, h.TR.1, ll_q, e1, wr_q (n := 1679 - τ 173 0 % 1440) (by omega) (by omega), e2, wr_q (n := τ 173 0 + (1679 - τ 173 0 % 1440) % 1440) (by omega) (by omega), ll_q, isT_q htk]
  by_cases z : 0 < σ t 4
  · rw [if_pos z]
    obtain ⟨r, r1, r2⟩ := scR h hn
    rw [r1, b1_q]
    by_cases r0 : r = 0
    · rw [if_pos r0, e3, wr_q (n := τ 173 0 - τ 173 0 % 60 + 60) (by omega) (by omega), min_q, b1_q]
      refine rest _ (by omega) (by omega) (fun m m1 m2 i hi ho => ?_)
      rcases r2 with r2 | r2
      · exact absurd r0 r2
      · have eh : hrM m = hrF (τ 173) := by
          unfold hrM hrF
          rw [Int.tdiv_eq_ediv_of_nonneg (by omega), Int.tdiv_eq_ediv_of_nonneg b0.1, show m / 60 = τ 173 0 / 60 by omega]
        rw [eh]
        exact r2.2 i (by omega) ho
    · rw [if_neg r0]
      exact ⟨_, rfl, by omega, fun m m1 m2 => (by omega)⟩
  · rw [if_neg z]
    exact rest _ (by omega) (by omega) (fun m m1 m2 i hi ho => absurd ho (opn_zero n (by omega) i (by omega)))
end Quiet
