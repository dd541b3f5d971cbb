/-! one reads a message, on both sides -/
noncomputable def dlC (one a1 : Int) (σ : Sg) : Option Sg := isT (σ 152 2).toNat (isT (σ 152 2).toNat (b2 (if one = (σ 152 4) then some ((σ 152 5), σ) else b2 (Ju_tells 17 0 σ) fun r44 σ45 => some (r44, σ45)) fun (t42 : Int) (σ43 : Sg) => ix a1 60 (ll (su σ43 ((σ 152 2).toNat + 12) (a1).toNat (wr ((σ (σ 152 2).toNat 0) + t42))) fun σ46 => isT (σ46 152 2).toNat (ll (su σ46 (σ46 152 2).toNat 5 (wr ((σ46 (σ46 152 2).toNat 5) + 1))) fun σ49 => some σ49))))
noncomputable def dlM (one a1 : Int) (τ : Sg) : Option Sg := b2 (if one = (τ 172 27) then some ((τ 172 28), τ) else b2 (Mo_delayNow τ) fun r25 σ26 => some (r25, σ26)) fun (t23 : Int) (σ24 : Sg) => b1 (Mo_puts0 a1 8 (wr ((τ 173 0) + t23)) σ24) fun σ27 => some σ27
section Reads
variable {t : Nat} {th : Int} {σ τ : Sg}
theorem CR.dly (h : CR t th σ τ) {i : Nat} (hi : (i : Int) < τ 173 3) (h8 : mW (τ 173) i 8 = -1) (h2 : mW (τ 173) i 2 ≠ -1) {one : Int} (ho : one = 0 ∨ one = 1) (hF : ∀ j, j < 10 → σ 150 j = τ 182 (j + 1)) : ∃ σ' τ', dlC one (i : Int) σ = some σ' ∧ dlM one (i : Int) τ = some τ' ∧ CR t th σ' τ' ∧ FR t σ σ' τ τ' ∧ τ' 173 0 = τ 173 0 ∧ τ' 173 3 = τ 173 3 := by
  have b60 := h.WF.2.2.1
  have b0 := h.WF.1
  have htt := h.tt
  have fin : ∀ (σ1 τ1 : Sg) (d : Int), (1 ≤ d ∧ d ≤ 999) → CR t th σ1 τ1 → FR t σ σ1 τ τ1 → τ1 173 = τ 173 → σ1 152 = σ 152 → σ1 t = σ t → (if one = (σ 152 4) then some ((σ 152 5), σ) else b2 (Ju_tells 17 0 σ) fun r44 σ45 => some (r44, σ45)) = some (d, σ1) → (if one = (τ 172 27) then some ((τ 172 28), τ) else b2 (Mo_delayNow τ) fun r25 σ26 => some (r25, σ26)) = some (d, τ1) → ∃ σ' τ', dlC one (i : Int) σ = some σ' ∧ dlM one (i : Int) τ = some τ' ∧ CR t th σ' τ' ∧ FR t σ σ' τ τ' ∧ τ' 173 0 = τ 173 0 ∧ τ' 173 3 = τ 173 3 := by
    intro σ1 τ1 d hd hC hFR ew e152 et e1 e2
    have hs5 : σ1 t 5 = awt (τ 173) (τ 173 3).toNat := by rw [et]; exact h.TR.2.2.2.2.2.1
    have b5 := awt_nn (w := τ 173) (τ 173 3).toNat
    obtain ⟨d1, d2⟩ := hC.due (i := i) (by rw [ew]; exact hi) (by rw [ew]; exact h8) (by rw [ew]; exact h2) (v := τ 173 0 + d) (by rw [ew]; omega)
    refine ⟨_, _, ?_, ?_, d1, hFR.trans d2, by rw [su_s, up_n (by omega), ew], by rw [su_s, up_n (by omega), ew]⟩
    · unfold dlC
      rw [e1, h.tn, isT_q h.tkk, isT_q h.tkk, b2_q, ix_q (by omega) (by omega), Int.toNat_natCast, h.TR.1, wr_q (n := τ 173 0 + d) (by omega) (by omega), ll_q, show su σ1 (t + 12) i (τ 173 0 + d) 152 = σ 152 by rw [su_c (by omega), e152], h.tn, isT_q h.tkk, show su σ1 (t + 12) i (τ 173 0 + d) t 5 = σ1 t 5 by rw [su_c (by omega)], wr_q (by omega) (by omega), ll_q]
    · unfold dlM
      rw [e2, b2_q, wr_q (n := τ 173 0 + d) (by omega) (by omega), show Mo_puts0 (i : Int) 8 (τ 173 0 + d) τ1 = _ from puts_q (f := 8) (by omega) (by decide), b1_q]
  have c2 := h.2.1
  by_cases hp : one = τ 172 27
  · have hp2 : τ 172 28 ≥ 1 ∧ τ 172 28 ≤ 999 ∧ σ 152 5 = τ 172 28 := by
      rcases c2.2.2.2.2 with z | z
      · omega
      · exact ⟨z.2.1, z.2.2, z.1⟩
    exact fin σ τ (τ 172 28) ⟨hp2.1, hp2.2.1⟩ h FR.refl rfl rfl rfl (by rw [c2.2.2.2.1, if_pos hp, hp2.2.2]) (by rw [if_pos hp])
  · obtain ⟨σ1, g1, g2⟩ := tvC h.LR hF (word := 0) (by decide)
    obtain ⟨τ1, k1, k2⟩ := (tvM h.LR (τ := τ)).1
    obtain ⟨s1, s2⟩ := h.scr (σ' := σ1) (τ' := τ1) (fun c a b d => g2.1 c d a) (fun c a _ => k2 c a)
    exact fin σ1 τ1 (tvF (τ 173) (τ 182) 0) (tv_in _ _).1 s1 s2 (k2 _ (by decide)) (g2.1 _ (by decide) (by decide)) (g2.1 _ (by omega) (by omega)) (by rw [c2.2.2.2.1, if_neg hp, g1, b2_q]) (by rw [if_neg hp, k1, b2_q])
theorem fcF_ag {s c w w' : Nat → Int} (hH : HR s c w) {o : Nat} (ho : o < 2) {l k st v : Int} (e : w' = up w (4 + o) v) (j : Nat) (h1 : 1 ≤ j) (h2 : j ≤ 10) : fcF w' (o : Int) l k st j = if j = 2 then v else fcF w (o : Int) l k st j := by
  have ea : ∀ hr, act w' (o : Int) hr = act w (o : Int) hr := fun hr => act_ag hH (fun j h1 h2 => by rw [e, up_n (by omega)])
  have e0 : w' 0 = w 0 := by rw [e, up_n (by omega)]
  have e3 : w' 3 = w 3 := by rw [e, up_n (by omega)]
  have e6 : w' (6 + (o : Int).toNat) = w (6 + (o : Int).toNat) := by rw [e, up_n (by omega)]
  have e8 : w' (548 + (1 - (o : Int)).toNat) = w (548 + (1 - (o : Int)).toNat) := by rw [e, up_n (by omega)]
  have e2 : w' (4 + (o : Int).toNat) = v := by rw [e, Int.toNat_natCast, up_a]
  have hj : j = 1 ∨ j = 2 ∨ j = 3 ∨ j = 4 ∨ j = 5 ∨ j = 6 ∨ j = 7 ∨ j = 8 ∨ j = 9 ∨ j = 10 := by omega
  rcases hj with rfl | rfl | rfl | rfl | rfl | rfl | rfl | rfl | rfl | rfl
  · rfl
  · exact e2
  · exact e6
  · rfl
  · rfl
  · rfl
  · show (if act w' (o : Int) (Int.tmod (Int.tdiv (w' 0) 60) 24) = 1 then (1 : Int) else 0) = if act w (o : Int) (Int.tmod (Int.tdiv (w 0) 60) 24) = 1 then (1 : Int) else 0
    rw [ea, e0]
  · show Int.tmod (Int.tdiv (w' 0) 60) 24 = Int.tmod (Int.tdiv (w 0) 60) 24
    rw [e0]
  · exact e8
  · exact e3
/-- what follows the hurt: does he answer, and when -/
noncomputable def goC (one a1 : Int) (σ : Sg) : Option Sg := b2 (Ju_tells 17 4 σ) fun r33 σ34 => if (σ34 152 3) = 0 then b2 (Co_draw 1000 σ34) fun r36 σ37 => if r36 < r33 then dlC one a1 σ37 else some σ37 else if r33 < 500 then some σ34 else dlC one a1 σ34
noncomputable def goM (one a1 : Int) (τ : Sg) : Option Sg := b2 (Mo_goNow τ) fun r12 σ13 => b2 (if (σ13 172 26) = 0 then if r12 < 500 then some (0, σ13) else some (1, σ13) else b2 (Mo_draw 1000 σ13) fun r18 σ19 => if r18 < r12 then some (1, σ19) else some (0, σ19)) fun (t15 : Int) (σ16 : Sg) => if t15 = 0 then some σ16 else dlM one a1 σ16
theorem CR.gos (h : CR t th σ τ) {i : Nat} (hi : (i : Int) < τ 173 3) (h8 : mW (τ 173) i 8 = -1) (h2 : mW (τ 173) i 2 ≠ -1) {one : Int} (ho : one = 0 ∨ one = 1) (hF : ∀ j, j < 10 → σ 150 j = τ 182 (j + 1)) : ∃ σ' τ', goC one (i : Int) σ = some σ' ∧ goM one (i : Int) τ = some τ' ∧ CR t th σ' τ' ∧ FR t σ σ' τ τ' ∧ τ' 173 0 = τ 173 0 ∧ τ' 173 3 = τ 173 3 := by
  have htt := h.tt
  obtain ⟨σ1, g1, g2⟩ := tvC h.LR hF (word := 4) (by decide)
  obtain ⟨τ1, k1, k2⟩ := (tvM h.LR (τ := τ)).2.2.2.2
  obtain ⟨s1, s2⟩ := h.scr (σ' := σ1) (τ' := τ1) (fun c a b d => g2.1 c d a) (fun c a _ => k2 c a)
  have hF1 : ∀ j, j < 10 → σ1 150 j = τ1 182 (j + 1) := fun j hj => by rw [g2.1 150 (by decide) (by decide), k2 182 (by decide)]; exact hF j hj
  have ew : τ1 173 = τ 173 := k2 _ (by decide)
  have c2 := s1.2.1
  rcases s1.hh with e | e
  · have eC : Co_draw 1000 σ1 = some (Int.tmod (bUsh (wr (1664525 * τ1 173 1 + 1013904223)) 8) 1000, su σ1 t 1 (wr (1664525 * τ1 173 1 + 1013904223))) := by
      unfold Co_draw
      rw [s1.tn, isT_q s1.tkk, isT_q s1.tkk, s1.TR.2.1, Int.mul_comm, ll_q, if_pos (by decide), show su σ1 t 1 (wr (1664525 * τ1 173 1 + 1013904223)) 152 = σ1 152 from su_c (by omega), s1.tn, isT_q s1.tkk, nzd_q (by decide), su_s, up_a]
    have eM : Mo_draw 1000 τ1 = some (Int.tmod (bUsh (wr (1664525 * τ1 173 1 + 1013904223)) 8) 1000, su τ1 173 1 (wr (1664525 * τ1 173 1 + 1013904223))) := by
      unfold Mo_draw
      rw [ll_q, nzd_q (by decide), su_s, up_a]
    obtain ⟨a1, a2⟩ := s1.sta (v := wr (1664525 * τ1 173 1 + 1013904223))
    by_cases hd : Int.tmod (bUsh (wr (1664525 * τ1 173 1 + 1013904223)) 8) 1000 < tvF (τ 173) (τ 182) 4
    · have mk : ∀ f, mW (su τ1 173 1 (wr (1664525 * τ1 173 1 + 1013904223)) 173) i f = mW (τ 173) i f := fun f => by rw [su_s, mW_low (by decide), ew]
      obtain ⟨σ', τ', d1, d2, d3, d4, d5, d6⟩ := a1.dly (i := i) (by rw [su_s, up_n (by decide), ew]; exact hi) (by rw [mk]; exact h8) (by rw [mk]; exact h2) ho (fun j hj => by rw [su_c (by omega), su_c (by decide)]; exact hF1 j hj)
      refine ⟨σ', τ', ?_, ?_, d3, (s2.trans a2).trans d4, by rw [d5, su_s, up_n (by decide), ew], by rw [d6, su_s, up_n (by decide), ew]⟩
      · unfold goC
        rw [g1, b2_q, c2.2.1, if_pos e, eC, b2_q, if_pos hd]; exact d1
      · unfold goM
        rw [k1, b2_q, c2.2.2.1, if_neg (by omega), eM, b2_q, if_pos hd, b2_q, if_neg (by decide)]; exact d2
    · refine ⟨_, _, ?_, ?_, a1, s2.trans a2, by rw [su_s, up_n (by decide), ew], by rw [su_s, up_n (by decide), ew]⟩
      · unfold goC
        rw [g1, b2_q, c2.2.1, if_pos e, eC, b2_q, if_neg hd]
      · unfold goM
        rw [k1, b2_q, c2.2.2.1, if_neg (by omega), eM, b2_q, if_neg hd, b2_q, i00]
  · by_cases hd : tvF (τ 173) (τ 182) 4 < 500
    · refine ⟨σ1, τ1, ?_, ?_, s1, s2, by rw [ew], by rw [ew]⟩
      · unfold goC
        rw [g1, b2_q, c2.2.1, if_neg (by omega), if_pos hd]
      · unfold goM
        rw [k1, b2_q, c2.2.2.1, if_pos (by omega), if_pos hd, b2_q, i00]
    · obtain ⟨σ', τ', d1, d2, d3, d4, d5, d6⟩ := s1.dly (i := i) (by rw [ew]; exact hi) (by rw [ew]; exact h8) (by rw [ew]; exact h2) ho hF1
      refine ⟨σ', τ', ?_, ?_, d3, s2.trans d4, by rw [d5, ew], by rw [d6, ew]⟩
      · unfold goC
        rw [g1, b2_q, c2.2.1, if_neg (by omega), if_neg hd]; exact d1
      · unfold goM
        rw [k1, b2_q, c2.2.2.1, if_pos (by omega), if_neg hd, b2_q, if_neg (by decide)]; exact d2
end Reads
