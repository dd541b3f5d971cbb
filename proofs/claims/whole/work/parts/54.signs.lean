/-! how sure, by signs -/
def sf (q c e : Int) : Int := Int.tdiv (1000000 * (q * c)) (q * c + (1000000 - q) * e)
theorem sf_b {q c e : Int} (hq : 0 ≤ q ∧ q ≤ 1000000) (hc : 1 ≤ c ∧ c ≤ 999) (he : 1 ≤ e ∧ e ≤ 999) : (0 ≤ q * c ∧ q * c ≤ 999000000) ∧ (0 ≤ (1000000 - q) * e ∧ (1000000 - q) * e ≤ 999000000) ∧ 0 < q * c + (1000000 - q) * e ∧ 0 ≤ sf q c e ∧ sf q c e ≤ 1000000 := by
  have a1 : 0 ≤ q * c := Int.mul_nonneg hq.1 (by omega)
  have a2 : q * c ≤ 1000000 * 999 := Int.mul_le_mul hq.2 hc.2 (by omega) (by omega)
  have a3 : 0 ≤ (1000000 - q) * e := Int.mul_nonneg (by omega) (by omega)
  have a4 : (1000000 - q) * e ≤ 1000000 * 999 := Int.mul_le_mul (by omega) he.2 (by omega) (by omega)
  have a5 : q * 1 ≤ q * c := Int.mul_le_mul_of_nonneg_left hc.1 hq.1
  have a6 : (1000000 - q) * 1 ≤ (1000000 - q) * e := Int.mul_le_mul_of_nonneg_left he.1 (by omega)
  have a7 : 0 < q * c + (1000000 - q) * e := by omega
  refine ⟨⟨a1, by omega⟩, ⟨a3, by omega⟩, a7, ?_, ?_⟩
  · unfold sf
    rw [Int.tdiv_eq_ediv_of_nonneg (by omega)]
    exact Int.ediv_nonneg (by omega) (by omega)
  · unfold sf
    rw [Int.tdiv_eq_ediv_of_nonneg (by omega)]
    refine Int.ediv_le_of_le_mul a7 ?_
    exact Int.mul_le_mul_of_nonneg_left (by omega) (by omega)
def sg (w : Nat → Int) (q : Int) (i : Nat) (z : Int) : Int := if z = 0 then sf q (1000 - w (699 + (2 * i + 1))) (1000 - w (699 + 2 * i)) else sf q (w (699 + (2 * i + 1))) (w (699 + 2 * i))
section Signs
variable {σ τ : Sg} {s c w : Nat → Int}
theorem sg_in (h : BR s c w) {q : Int} (hq : 0 ≤ q ∧ q ≤ 1000000) {i : Nat} (hi : (i : Int) < w 553) (z : Int) : 0 ≤ sg w q i z ∧ sg w q i z ≤ 1000000 := by
  have b1 := h.2.2.2 (2 * i) (by omega)
  have b2 := h.2.2.2 (2 * i + 1) (by omega)
  unfold sg
  split
  · exact (sf_b hq (by omega) (by omega)).2.2.2
  · exact (sf_b hq (by omega) (by omega)).2.2.2
theorem signM (h : BR s c (τ 173)) {q : Int} (hq : 0 ≤ q ∧ q ≤ 1000000) {i : Nat} (hi : (i : Int) < τ 173 553) (z : Int) : Mo_bySign q (i : Int) z τ = some (sg (τ 173) q i z) := by
  have b1 := h.2.2.2 (2 * i) (by omega)
  have b2 := h.2.2.2 (2 * i + 1) (by omega)
  have hn := h.2.1
  have e1 : (699 + 2 * (i : Int)).toNat = 699 + 2 * i := by omega
  have e2 : (699 + 2 * (i : Int) + 1).toNat = 699 + (2 * i + 1) := by omega
  unfold Mo_bySign sg
  rw [ix_q (by omega) (by omega), ix_q (by omega) (by omega), ix_q (by omega) (by omega), ix_q (by omega) (by omega), e1, e2, wr_q (by omega) (by omega), wr_q (by omega) (by omega)]
  by_cases hz : z = 0
  · have k := sf_b hq (c := 1000 - τ 173 (699 + (2 * i + 1))) (e := 1000 - τ 173 (699 + 2 * i)) (by omega) (by omega)
    obtain ⟨k1, k2, k3, k4⟩ := k
    simp only [if_pos hz, b1_q, ll_q]
    rw [wrJ_q (by omega) (by omega), nzd_q (by omega), wrJ_q (n := 1000000 * _) (by omega) (by omega)]
    rw [wrJ_q]
    · rfl
    · have := k4.1; unfold sf at this; omega
    · have := k4.2; unfold sf at this; omega
  · have k := sf_b hq (c := τ 173 (699 + (2 * i + 1))) (e := τ 173 (699 + 2 * i)) (by omega) (by omega)
    obtain ⟨k1, k2, k3, k4⟩ := k
    simp only [if_neg hz, b1_q, ll_q]
    rw [wrJ_q (by omega) (by omega), nzd_q (by omega), wrJ_q (n := 1000000 * _) (by omega) (by omega)]
    rw [wrJ_q]
    · rfl
    · have := k4.1; unfold sf at this; omega
    · have := k4.2; unfold sf at this; omega
theorem signC (h : BR (σ 26) (σ 27) w) {q : Int} (hq : 0 ≤ q ∧ q ≤ 1000000) {i : Nat} (hi : (i : Int) < w 553) (z : Int) : Wo_surer 1 q (i : Int) z σ = some (sg w q i z) := by
  have b1 := h.2.2.2 (2 * i) (by omega)
  have b2 := h.2.2.2 (2 * i + 1) (by omega)
  have hn := h.2.1
  obtain ⟨g1, g2⟩ := h.2.2.1 (by omega)
  have g2' : σ 26 2 = ((2 * (w 553).toNat : Nat) : Int) := by omega
  have hln : ln (26 + 1) = 16 := by decide +kernel
  have c0 := cell_q (i := i) (k := 0) (W := 2) g1 g2' (by omega) (by omega) (by omega)
  have c1 := cell_q (i := i) (k := 1) (W := 2) g1 g2' (by omega) (by omega) (by omega)
  simp only [Nat.reduceAdd] at c0 c1
  rw [show i * 2 + 0 = 2 * i by omega, b1.1] at c0
  rw [show i * 2 + 1 = 2 * i + 1 by omega, b2.1] at c1
  simp only [Int.cast_ofNat_Int] at c0 c1
  unfold Wo_surer sg
  rw [c0, c1, b1_q, b1_q, wr_q (by omega) (by omega), wr_q (by omega) (by omega)]
  by_cases hz : z = 0
  · have k := sf_b hq (c := 1000 - w (699 + (2 * i + 1))) (e := 1000 - w (699 + 2 * i)) (by omega) (by omega)
    obtain ⟨k1, k2, k3, k4⟩ := k
    simp only [if_pos hz, b1_q, ll_q]
    rw [wrJ_q (n := q * _) (by omega) (by omega), wrJ_q (n := (1000000 - q) * _) (by omega) (by omega), wrJ_q (by omega) (by omega)]
    have hc : cmpJ (q * (1000 - w (699 + (2 * i + 1))) + (1000000 - q) * (1000 - w (699 + 2 * i))) 0 = 1 := by unfold cmpJ; rw [if_pos k3]
    rw [hc, if_pos (by decide), nzd_q (by omega), wrJ_q (by omega) (by omega), Int.mul_comm _ 1000000]
    rw [wr_q]
    · rfl
    · have := k4.1; unfold sf at this; omega
    · have := k4.2; unfold sf at this; omega
  · have k := sf_b hq (c := w (699 + (2 * i + 1))) (e := w (699 + 2 * i)) (by omega) (by omega)
    obtain ⟨k1, k2, k3, k4⟩ := k
    simp only [if_neg hz, b1_q, ll_q]
    rw [wrJ_q (n := q * _) (by omega) (by omega), wrJ_q (n := (1000000 - q) * _) (by omega) (by omega), wrJ_q (by omega) (by omega)]
    have hc : cmpJ (q * w (699 + (2 * i + 1)) + (1000000 - q) * w (699 + 2 * i)) 0 = 1 := by unfold cmpJ; rw [if_pos k3]
    rw [hc, if_pos (by decide), nzd_q (by omega), wrJ_q (by omega) (by omega), Int.mul_comm _ 1000000]
    rw [wr_q]
    · rfl
    · have := k4.1; unfold sf at this; omega
    · have := k4.2; unfold sf at this; omega
theorem cmp_lt {x y : Int} : cmpJ x y < 0 ↔ x < y := by unfold cmpJ; split; · omega
                                                        · split <;> omega
theorem cmp_gt {x y : Int} : 0 < cmpJ x y ↔ y < x := by unfold cmpJ; split; · omega
                                                        · split <;> omega
theorem p_needs (h : Inv σ τ) (a b : Int) (ha : inR a) (hb : inR b) : Same1 (Td_needs a b σ) (Mo_needs a b τ) := by
  obtain ⟨⟨hT, hW, hM, hS, hB⟩, hP, hI, hR⟩ := h
  have hBR : BR (σ 26) (σ 27) (τ 173) := hS.2.2.2.1
  have hn := hBR.2.1
  unfold Td_needs Mo_needs Wo_signs
  rw [within_q, isIn_q]
  simp only [b1_q]
  by_cases hc : 0 ≤ a ∧ a ≤ 1000
  · rw [if_pos hc, i10, i10, show (1 + 25 : Nat) = 26 from rfl, hBR.1, wr_q (by omega) (by omega), within_q, isIn_q]
    simp only [b1_q]
    by_cases hd : 0 ≤ b ∧ b ≤ τ 173 553 - 1
    · rw [if_pos hd, i10, i10, ll_q, ll_q, wr_q (by omega) (by omega), wrJ_q (by omega) (by omega), Int.mul_comm a 1000]
      obtain ⟨i, rfl⟩ := Int.eq_ofNat_of_zero_le hd.1
      have key := wl_two (B := fun p : Int × Int => Td_needs_39_b (i : Int) σ p.1 p.2) (B' := fun p : Int × Int => Mo_needs_41_b (i : Int) τ p.1 p.2) (fun p => (61 - p.2).toNat) (fun p q => p = q ∧ (0 ≤ p.1 ∧ p.1 ≤ 1000000) ∧ 0 ≤ p.2 ∧ p.2 ≤ 61) (fun r r' => r = r') (by
        rintro ⟨q, k⟩ ⟨q', k'⟩ ⟨e, h1, h2⟩
        cases e
        dsimp only at h1 h2 ⊢
        unfold Td_needs_39_b Mo_needs_41_b
        by_cases h60 : 60 < k
        · left; exact ⟨-1, -1, by rw [if_pos h60], by rw [if_pos h60], rfl⟩
        · by_cases h5 : q < 500000
          · right
            rw [if_neg h60, if_neg h60, if_pos h5, if_pos (cmp_lt.mpr h5), signC hBR h1 (by omega), signM hBR h1 (by omega), b1_q, b1_q]
            simp only [ll_q]
            rw [wr_q (by omega) (by omega)]
            refine ⟨_, _, rfl, rfl, ⟨rfl, sg_in hBR h1 (by omega) 1, by dsimp only; omega⟩, by dsimp only; omega⟩
          · left; exact ⟨k, k, by rw [if_neg h60, if_neg h5], by rw [if_neg h60, if_neg (fun z => h5 (cmp_lt.mp z))], rfl⟩) (1000 * a, 0) (1000 * a, 0) ⟨rfl, by dsimp only; omega, by dsimp only; omega⟩
      obtain ⟨r, r', h1, h2, h3⟩ := key
      exact ⟨r, h1, by rw [h3]; exact h2⟩
    · rw [if_neg hd, i00, i00]; exact ⟨_, rfl, rfl⟩
  · rw [if_neg hc, i00, i00]; exact ⟨_, rfl, rfl⟩
theorem p_waits (h : Inv σ τ) (a : Int) (ha : inR a) : Same1 (Td_waits a σ) (Mo_waits a τ) := by
  obtain ⟨⟨hT, hW, hM, hS, hB⟩, hP, hI, hR⟩ := h
  have hBR : BR (σ 26) (σ 27) (τ 173) := hS.2.2.2.1
  have hn := hBR.2.1
  unfold Td_waits Mo_waits
  rw [within_q, isIn_q, b1_q, b1_q]
  by_cases hc : 0 ≤ a ∧ a ≤ 1000
  · rw [if_pos hc, i10, i10, ll_q]
    have key := wl_two (B := fun p : Int × Int × Int => Td_waits_20_b σ a p.1 p.2.1 p.2.2) (B' := fun p : Int × Int × Int => Mo_waits_22_b τ a p.1 p.2.1 p.2.2) (fun p => (τ 173 553 - p.2.2).toNat) (fun p q => p = q ∧ 0 ≤ p.2.2 ∧ p.2.2 ≤ τ 173 553) (fun r r' => r = r') (by
      rintro ⟨x, y, k⟩ ⟨x', y', k'⟩ ⟨e, h1, h2⟩
      cases e
      dsimp only at h1 h2 ⊢
      unfold Td_waits_20_b Mo_waits_22_b Wo_signs
      rw [b1_q, show (1 + 25 : Nat) = 26 from rfl, hBR.1]
      by_cases hk : k < τ 173 553
      · right
        obtain ⟨i, rfl⟩ := Int.eq_ofNat_of_zero_le h1
        have hq : 0 ≤ 1000 * a ∧ 1000 * a ≤ 1000000 := by omega
        rw [if_pos hk, if_pos hk, wr_q (n := a * 1000) (by omega) (by omega), Int.mul_comm a 1000, wrJ_q (n := 1000 * a) (by omega) (by omega), signC hBR hq hk, signC hBR hq hk, signM hBR hq hk, signM hBR hq hk]
        have s1 := sg_in hBR hq hk 1
        have s0 := sg_in hBR hq hk 0
        simp only [b1_q, ll_q]
        rw [wr_q (n := sg _ _ _ _ - _) (by omega) (by omega), wrJ_q (n := sg _ _ _ _ - _) (by omega) (by omega), wr_q (n := (i : Int) + 1) (by omega) (by omega)]
        unfold Jm_abs
        generalize sg (τ 173) (1000 * a) i 1 = g1 at s1 ⊢
        generalize sg (τ 173) (1000 * a) i 0 = g0 at s0 ⊢
        by_cases hneg : g1 - g0 < 0
        · rw [if_pos hneg, if_pos (cmp_lt.mpr hneg), b1_q, b1_q, wr_q (by omega) (by omega), wrJ_q (by omega) (by omega)]
          by_cases hy : y < -(g1 - g0)
          · rw [if_pos hy, if_pos (cmp_gt.mpr hy)]
            exact ⟨_, _, rfl, rfl, ⟨rfl, by dsimp only; omega, by dsimp only; omega⟩, by dsimp only; omega⟩
          · rw [if_neg hy, if_neg (fun z => hy (cmp_gt.mp z))]
            exact ⟨_, _, rfl, rfl, ⟨rfl, by dsimp only; omega, by dsimp only; omega⟩, by dsimp only; omega⟩
        · rw [if_neg hneg, if_neg (fun z => hneg (cmp_lt.mp z)), b1_q, b1_q]
          by_cases hy : y < g1 - g0
          · rw [if_pos hy, if_pos (cmp_gt.mpr hy)]
            exact ⟨_, _, rfl, rfl, ⟨rfl, by dsimp only; omega, by dsimp only; omega⟩, by dsimp only; omega⟩
          · rw [if_neg hy, if_neg (fun z => hy (cmp_gt.mp z))]
            exact ⟨_, _, rfl, rfl, ⟨rfl, by dsimp only; omega, by dsimp only; omega⟩, by dsimp only; omega⟩
      · left; exact ⟨x, x, by rw [if_neg hk], by rw [if_neg hk], rfl⟩) (-1, -1, 0) (-1, -1, 0) ⟨rfl, by dsimp only; omega, by dsimp only; omega⟩
    obtain ⟨r, r', h1, h2, h3⟩ := key
    exact ⟨r, h1, by rw [h3]; exact h2⟩
  · rw [if_neg hc, i00, i00]; exact ⟨_, rfl, rfl⟩
end Signs
