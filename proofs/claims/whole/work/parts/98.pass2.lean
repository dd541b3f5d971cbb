/-! a minute's end -/
noncomputable def enC (σ8 : Sg) : Option Sg := isT (σ8 152 2).toNat (ll (su σ8 (σ8 152 2).toNat 0 (wr ((σ8 (σ8 152 2).toNat 0) + 1))) fun σ11 => isT (σ11 152 2).toNat (if (Int.tmod (σ11 (σ11 152 2).toNat 0) 1440) = 240 then isT (σ11 152 2).toNat (isT (σ11 152 2).toNat (ll (su σ11 ((σ11 152 2).toNat + 1) 0 (wr ((σ11 ((σ11 152 2).toNat + 1) 0) - (Int.tdiv (σ11 ((σ11 152 2).toNat + 1) 0) 10)))) fun σ16 => isT (σ16 152 2).toNat (isT (σ16 152 2).toNat (ll (su σ16 ((σ16 152 2).toNat + 1) 1 (wr ((σ16 ((σ16 152 2).toNat + 1) 1) - (Int.tdiv (σ16 ((σ16 152 2).toNat + 1) 1) 10)))) fun σ19 => some σ19)))) else some σ11))
section Pass2
variable {t : Nat} {th : Int} {σ τ : Sg}
theorem ten {c : Int} (h : 0 ≤ c ∧ c ≤ 99) : 0 ≤ c - Int.tdiv c 10 ∧ c - Int.tdiv c 10 ≤ 99 := by
  rw [Int.tdiv_eq_ediv_of_nonneg h.1]; omega
theorem mEnd (many : Int) {w3 : Int} (h3 : τ 173 3 = w3) (hq : ¬ Int.tmod (τ 173 0) 1440 = 240) : Mo_aMinute_174_w many 0 τ = some (.inr (.inr (.inr (wr (w3 - many), τ)))) := by
  refine wl_end ?_
  show Mo_aMinute_174_b many 0 τ = _
  unfold Mo_aMinute_174_b
  rw [if_pos (by decide), if_neg hq, h3]
theorem CR.fin (h : CR t th σ τ) (many : Int) (hw : τ 173 0 < 200000) (hd : ∀ k : Nat, (k : Int) < τ 173 3 → mW (τ 173) k 8 ≠ τ 173 0) : ∃ σ' τ', enC σ = some σ' ∧ ll (su τ 173 0 (wr ((τ 173 0) + 1))) (fun σ35 => Mo_aMinute_174_w many 0 σ35) = some (.inr (.inr (.inr (wr (τ 173 3 - many), τ')))) ∧ CR t th σ' τ' ∧ FR t σ σ' τ τ' ∧ τ' 173 0 = τ 173 0 + 1 ∧ τ' 173 3 = τ 173 3 := by
  have htk := h.tkk
  have htt := h.tt
  have b0 := h.WF.1
  obtain ⟨A1, A2⟩ := h.mnt (v := τ 173 0 + 1) (by omega) (fun i hi => by
    have q := hd i hi
    have m8 := (h.WF.2.2.2.2 i hi).2.2.2.2.2.2.2.2.1
    rcases m8 with z | z
    · exact .inl z
    · right; omega)
  have a0 : su τ 173 0 (τ 173 0 + 1) 173 0 = τ 173 0 + 1 := by rw [su_s, up_a]
  have a3 : su τ 173 0 (τ 173 0 + 1) 173 3 = τ 173 3 := by rw [su_s, up_n (by decide)]
  have e152 : su σ t 0 (τ 173 0 + 1) 152 = σ 152 := su_c (by omega)
  have at0 : su σ t 0 (τ 173 0 + 1) t 0 = τ 173 0 + 1 := by rw [su_s, up_a]
  by_cases hq : Int.tmod (τ 173 0 + 1) 1440 = 240
  · have c0 := A1.WF.2.2.2.1 0 (by decide)
    have c1 := A1.WF.2.2.2.1 1 (by decide)
    rw [show (4 + 0 : Nat) = 4 from rfl] at c0
    rw [show (4 + 1 : Nat) = 5 from rfl] at c1
    have d0 := ten c0.1
    have d1 := ten c1.1
    generalize hx0 : su τ 173 0 (τ 173 0 + 1) 173 4 = x0 at c0 d0
    generalize hx1 : su τ 173 0 (τ 173 0 + 1) 173 5 = x1 at c1 d1
    obtain ⟨B1, B2⟩ := A1.crs (one := 0) (by decide) (v := x0 - Int.tdiv x0 10) d0
    obtain ⟨C1, C2⟩ := B1.crs (one := 1) (by decide) (v := x1 - Int.tdiv x1 10) d1
    have t0 : su σ t 0 (τ 173 0 + 1) (t + 1) 0 = x0 := by rw [(A1.TR.2.2.2.2.2.2.1 0 (by decide)).1]; exact hx0
    have t1 : su (su σ t 0 (τ 173 0 + 1)) (t + 1) 0 (x0 - Int.tdiv x0 10) (t + 1) 1 = x1 := by rw [su_s, up_n (by decide), (A1.TR.2.2.2.2.2.2.1 1 (by decide)).1]; exact hx1
    have f152 : su (su σ t 0 (τ 173 0 + 1)) (t + 1) 0 (x0 - Int.tdiv x0 10) 152 = σ 152 := by rw [su_c (by omega)]; exact e152
    refine ⟨_, _, ?_, ?_, C1, (A2.trans B2).trans C2, by rw [su_s, up_n (by decide), su_s, up_n (by decide)]; exact a0, by rw [su_s, up_n (by decide), su_s, up_n (by decide)]; exact a3⟩
    · unfold enC
      rw [h.tn, isT_q htk, h.TR.1, wr_q (by omega) (by omega), ll_q, e152, h.tn, isT_q htk, at0, if_pos hq, isT_q htk, isT_q htk, t0, wr_q (by omega) (by omega), ll_q, f152, h.tn, isT_q htk, isT_q htk, t1, wr_q (by omega) (by omega), ll_q]
    · rw [wr_q (by omega) (by omega), ll_q]
      have g1 : Mo_aMinute_174_b many 0 (su τ 173 0 (τ 173 0 + 1)) = some (.inl (1, su (su τ 173 0 (τ 173 0 + 1)) 173 4 (x0 - Int.tdiv x0 10))) := by
        unfold Mo_aMinute_174_b
        rw [if_pos (by decide), a0, if_pos hq, ix_q (by decide) (by decide), ix_q (by decide) (by decide), ix_q (by decide) (by decide), show (4 + (0 : Int)).toNat = 4 from rfl, hx0, wr_q (n := x0 - Int.tdiv x0 10) (by omega) (by omega), ll_q, show wr (0 + 1) = 1 from wr_q (by decide) (by decide), ll_q]
      have y0 : su (su τ 173 0 (τ 173 0 + 1)) 173 4 (x0 - Int.tdiv x0 10) 173 0 = τ 173 0 + 1 := by rw [su_s, up_n (by decide)]; exact a0
      have y5 : su (su τ 173 0 (τ 173 0 + 1)) 173 4 (x0 - Int.tdiv x0 10) 173 5 = x1 := by rw [su_s, up_n (by decide)]; exact hx1
      have g2 : Mo_aMinute_174_b many 1 (su (su τ 173 0 (τ 173 0 + 1)) 173 4 (x0 - Int.tdiv x0 10)) = some (.inl (2, su (su (su τ 173 0 (τ 173 0 + 1)) 173 4 (x0 - Int.tdiv x0 10)) 173 5 (x1 - Int.tdiv x1 10))) := by
        unfold Mo_aMinute_174_b
        rw [if_pos (by decide), y0, if_pos hq, ix_q (by decide) (by decide), ix_q (by decide) (by decide), ix_q (by decide) (by decide), show (4 + (1 : Int)).toNat = 5 from rfl, y5, wr_q (n := x1 - Int.tdiv x1 10) (by omega) (by omega), ll_q, show wr (1 + 1) = 2 from wr_q (by decide) (by decide), ll_q]
      have g3 : Mo_aMinute_174_b many 2 (su (su (su τ 173 0 (τ 173 0 + 1)) 173 4 (x0 - Int.tdiv x0 10)) 173 5 (x1 - Int.tdiv x1 10)) = some (.inr (.inr (.inr (.inr (wr (τ 173 3 - many), su (su (su τ 173 0 (τ 173 0 + 1)) 173 4 (x0 - Int.tdiv x0 10)) 173 5 (x1 - Int.tdiv x1 10)))))) := by
        unfold Mo_aMinute_174_b
        rw [if_neg (by decide), su_s, up_n (show (3 : Nat) ≠ 5 by decide), su_s, up_n (show (3 : Nat) ≠ 4 by decide), a3]
      exact (wl_go g1).trans ((wl_go g2).trans (wl_end g3))
  · refine ⟨_, _, ?_, ?_, A1, A2, a0, a3⟩
    · unfold enC
      rw [h.tn, isT_q htk, h.TR.1, wr_q (by omega) (by omega), ll_q, e152, h.tn, isT_q htk, at0, if_neg hq]
    · rw [wr_q (by omega) (by omega), ll_q]
      exact mEnd many a3 (by rw [a0]; exact hq)
/-- a minute -/
theorem CR.pass (h : CR t th σ τ) (hw : τ 173 0 < 200000) : ∃ σ' τ', Co_pass σ = some σ' ∧ Mo_aMinute τ = some (τ' 173 3 - τ 173 3, τ') ∧ CR t th σ' τ' ∧ FR t σ σ' τ τ' ∧ τ' 173 0 = τ 173 0 + 1 := by
  obtain ⟨n, hn⟩ := Int.eq_ofNat_of_zero_le h.SR.2.1.1
  have hn : τ 173 552 = (n : Int) := hn
  obtain ⟨σA, τA, a1, a2, A1, A2, a5⟩ := CR.say (τ 173 3) n 0 σ τ (by omega) hn h
  obtain ⟨nA, hnA⟩ := Int.eq_ofNat_of_zero_le A1.WF.2.2.1.1
  have hnA : τA 173 3 = (nA : Int) := hnA
  obtain ⟨σB, τB, b1', b2', B1, B2, b5, b6⟩ := A1.rda (τ 173 3) hnA
  have hnB : τB 173 3 = (nA : Int) := b6.trans hnA
  obtain ⟨σC, τC, c1, c2, C1, C2, c5, c6⟩ := B1.ana (τ 173 3) hnB
  obtain ⟨σ', τ', d1, d2, D1, D2, d5, d6⟩ := C1.fin (τ 173 3) (by omega) (by rw [c5]; exact c6)
  have bb := h.WF.2.2.1
  have bc := C1.WF.2.2.1
  refine ⟨σ', τ', ?_, ?_, D1, ((A2.trans B2).trans C2).trans D2, by omega⟩
  · unfold Co_pass
    rw [show Co_followSayings σ = some σA from a1, b1_q, A1.tn, isT_q A1.tkk, b1', b1_q, B1.tn, isT_q B1.tkk, c1, b1_q]
    exact d1
  · unfold Mo_aMinute
    rw [ll_q, show Mo_aMinute_9_w (τ 173 3) 0 τ = _ from a2]
    have e552 : τA 173 552 = (n : Int) := by rw [A2.2.2.2.1 552 (by decide) (by decide)]; exact hn
    have k130 : Mo_aMinute_130_w (nA : Int) (τ 173 3) (nA : Int) τC = some (.inr (.inr (τ' 173 3 - τ 173 3, τ'))) := by
      refine wl_end ?_
      show Mo_aMinute_130_b (nA : Int) (τ 173 3) (nA : Int) τC = _
      unfold Mo_aMinute_130_b
      rw [if_neg (by omega), d2, d6, wr_q (by omega) (by omega)]
    have k61 : Mo_aMinute_61_w (τ 173 3) 0 τA = some (.inr (τ' 173 3 - τ 173 3, τ')) := by
      rw [b2']
      refine wl_end ?_
      show Mo_aMinute_61_b (τ 173 3) (nA : Int) τB = _
      unfold Mo_aMinute_61_b
      rw [hnB, if_neg (by omega), ll_q, c2, k130]
    refine wl_end ?_
    show Mo_aMinute_9_b (τ 173 3) (n : Int) τA = _
    unfold Mo_aMinute_9_b
    rw [e552, if_neg (by omega), k61]
/-- the reference: a minute in which nothing happens -/
theorem quietM {s c s' c' : Nat → Int} (hH : HR s c (τ 173)) (hS : SR s' c' (τ 173)) (hW : WF (τ 173)) (hw : τ 173 0 < 200000) (h1 : ∀ i : Nat, (i : Int) < τ 173 552 → τ 173 (619 + 5 * i) ≠ τ 173 0) (h2 : ∀ i : Nat, (i : Int) < τ 173 3 → ¬ canF (τ 173) i) (h3 : ∀ i : Nat, (i : Int) < τ 173 3 → mW (τ 173) i 8 ≠ τ 173 0) (h4 : ¬ Int.tmod (τ 173 0 + 1) 1440 = 240) : Mo_aMinute τ = some (0, su τ 173 0 (τ 173 0 + 1)) := by
  have b0 := hW.1
  have b60 := hW.2.2.1
  obtain ⟨n, hn⟩ := Int.eq_ofNat_of_zero_le hS.2.1.1
  have hn : τ 173 552 = (n : Int) := hn
  obtain ⟨m, hm⟩ := Int.eq_ofNat_of_zero_le b60.1
  have hm : τ 173 3 = (m : Int) := hm
  have hb := hS.2.1
  have k9 : ∀ x i : Nat, i + x = n → Mo_aMinute_9_w (τ 173 3) (i : Int) τ = Mo_aMinute_9_w (τ 173 3) (n : Int) τ := by
    intro x
    induction x with
    | zero => intro i hi; rw [show i = n by omega]
    | succ x ih =>
      intro i hi
      rw [← ih (i + 1) (by omega)]
      refine wl_go ?_
      show Mo_aMinute_9_b (τ 173 3) (i : Int) τ = _
      unfold Mo_aMinute_9_b
      rw [if_pos (by omega), ix_q (by omega) (by omega), show (619 + 5 * (i : Int)).toNat = 619 + 5 * i by omega, if_neg (h1 i (by omega)), wr_q (by omega) (by omega), ll_q]
      rfl
  unfold Mo_aMinute
  rw [ll_q, show Mo_aMinute_9_w (τ 173 3) 0 τ = _ from k9 n 0 (by omega)]
  have a0 : su τ 173 0 (τ 173 0 + 1) 173 0 = τ 173 0 + 1 := by rw [su_s, up_a]
  have a3 : su τ 173 0 (τ 173 0 + 1) 173 3 = τ 173 3 := by rw [su_s, up_n (by decide)]
  have k130 : Mo_aMinute_130_w (m : Int) (τ 173 3) 0 τ = some (.inr (.inr (0, su τ 173 0 (τ 173 0 + 1)))) := by
    rw [show Mo_aMinute_130_w (m : Int) (τ 173 3) 0 τ = _ from anS hW (τ 173 3) hm (fun k hk => h3 k (by omega)) m 0 (by omega)]
    refine wl_end ?_
    show Mo_aMinute_130_b (m : Int) (τ 173 3) (m : Int) τ = _
    unfold Mo_aMinute_130_b
    rw [if_neg (by omega), wr_q (by omega) (by omega), ll_q, mEnd (τ 173 3) a3 (by rw [a0]; exact h4), Int.sub_self]
    rfl
  have k61 : Mo_aMinute_61_w (τ 173 3) 0 τ = some (.inr (0, su τ 173 0 (τ 173 0 + 1))) := by
    rw [show Mo_aMinute_61_w (τ 173 3) 0 τ = _ from rdS hH hW (τ 173 3) hm (fun k hk => h2 k (by omega)) m 0 (by omega)]
    refine wl_end ?_
    show Mo_aMinute_61_b (τ 173 3) (m : Int) τ = _
    unfold Mo_aMinute_61_b
    rw [if_neg (by omega), ll_q, hm]
    rw [hm] at k130
    exact k130
  refine wl_end ?_
  show Mo_aMinute_9_b (τ 173 3) (n : Int) τ = _
  unfold Mo_aMinute_9_b
  rw [hn, if_neg (by omega), k61]
end Pass2
