/-! minutes -/
section Minutes
variable {σ τ : Sg}
def xF (τ : Sg) : Sg := su (su τ 172 26 1) 172 27 (-1)
theorem xF_su {τ : Sg} {k j : Nat} {v : Int} (h : k ≠ 172 ∨ (j ≠ 26 ∧ j ≠ 27)) : su (xF τ) k j v = xF (su τ k j v) := by
  unfold xF
  rw [su_x (k := 172) (j := 27) (by omega), su_x (k := 172) (j := 26) (by omega)]
theorem xF_x {τ : Sg} : xF (xF τ) = xF τ := by
  funext a b
  unfold xF su
  by_cases e1 : a = 172 ∧ b = 27
  · rw [if_pos e1, if_pos e1]
  · rw [if_neg e1, if_neg e1]
    by_cases e2 : a = 172 ∧ b = 26
    · rw [if_pos e2, if_pos e2]
    · rw [if_neg e2]
theorem xF_c {τ : Sg} {c : Nat} (h : c ≠ 172) : xF τ c = τ c := by unfold xF; rw [su_c h, su_c h]
theorem xF_j {τ : Sg} {j : Nat} (h1 : j ≠ 26) (h2 : j ≠ 27) : xF τ 172 j = τ 172 j := by unfold xF; rw [su_s, up_n h2, su_s, up_n h1]
theorem kx52 {d : Nat} (hd : d < 6) : ∀ (m k : Nat) (τ : Sg), k + m = 548 → τ 172 4 = d → Mo_keeps_52_w (k : Int) (xF τ) = Mo_keeps_52_w (k : Int) τ
  | 0, k, τ, hk, h4 => by
    have e1 : Mo_keeps_52_b (k : Int) τ = some (.inr (xF (su τ 172 4 ((d : Int) + 1)))) := by
      unfold Mo_keeps_52_b
      rw [if_neg (by omega), h4, wr_q (by omega) (by omega), ll_q, ll_q, ll_q]
      rfl
    have e2 : Mo_keeps_52_b (k : Int) (xF τ) = some (.inr (xF (su τ 172 4 ((d : Int) + 1)))) := by
      unfold Mo_keeps_52_b
      rw [if_neg (by omega), xF_j (by decide) (by decide), h4, wr_q (by omega) (by omega), ll_q, ll_q, ll_q, xF_su (.inr ⟨by decide, by decide⟩)]
      show (some (Sum.inr (xF (xF (su τ 172 4 ((d : Int) + 1))))) : Option ((Int × Sg) ⊕ Sg)) = _
      rw [xF_x]
    rw [show Mo_keeps_52_w (k : Int) (xF τ) = some (xF (su τ 172 4 ((d : Int) + 1))) from wl_end e2, show Mo_keeps_52_w (k : Int) τ = some (xF (su τ 172 4 ((d : Int) + 1))) from wl_end e1]
  | m + 1, k, τ, hk, h4 => by
    have e1 : Mo_keeps_52_b (k : Int) τ = some (.inl ((k : Int) + 1, su τ 175 (548 * d + k) (τ 173 k))) := by
      unfold Mo_keeps_52_b
      rw [if_pos (by omega), ix_q (by omega) (by omega), h4, ix_q (by omega) (by omega), ll_q, wr_q (by omega) (by omega), ll_q, show (548 * ((d : Nat) : Int) + (k : Int)).toNat = 548 * d + k by omega, Int.toNat_natCast]
    have e2 : Mo_keeps_52_b (k : Int) (xF τ) = some (.inl ((k : Int) + 1, xF (su τ 175 (548 * d + k) (τ 173 k)))) := by
      unfold Mo_keeps_52_b
      rw [if_pos (by omega), ix_q (by omega) (by omega), xF_j (by decide) (by decide), h4, ix_q (by omega) (by omega), ll_q, wr_q (by omega) (by omega), ll_q, show (548 * ((d : Nat) : Int) + (k : Int)).toNat = 548 * d + k by omega, Int.toNat_natCast, xF_c (by decide), xF_su (.inl (by decide))]
    have ih := kx52 hd m (k + 1) (su τ 175 (548 * d + k) (τ 173 k)) (by omega) (by rw [su_c (by decide)]; exact h4)
    rw [show ((k + 1 : Nat) : Int) = (k : Int) + 1 by omega] at ih
    rw [show Mo_keeps_52_w (k : Int) (xF τ) = Mo_keeps_52_w ((k : Int) + 1) (xF (su τ 175 (548 * d + k) (τ 173 k))) from wl_go e2, show Mo_keeps_52_w (k : Int) τ = Mo_keeps_52_w ((k : Int) + 1) (su τ 175 (548 * d + k) (τ 173 k)) from wl_go e1]
    exact ih
theorem kx11 : ∀ (m k : Nat) (τ : Sg), k + m = 2740 → τ 172 4 = 6 → ∃ τ', Mo_keeps_11_w (k : Int) τ = some τ' ∧ Mo_keeps_11_w (k : Int) (xF τ) = some (xF τ') ∧ τ' 172 4 = 5
  | 0, k, τ, hk, h4 => by
    refine ⟨su τ 172 4 5, wl_end ?_, wl_end ?_, by rw [su_s, up_a]⟩
    · show Mo_keeps_11_b (k : Int) τ = _
      unfold Mo_keeps_11_b
      rw [if_neg (by omega), h4, wr_q (by decide) (by decide), ll_q]
      rfl
    · show Mo_keeps_11_b (k : Int) (xF τ) = _
      unfold Mo_keeps_11_b
      rw [if_neg (by omega), xF_j (by decide) (by decide), h4, wr_q (by decide) (by decide), ll_q, xF_su (.inr ⟨by decide, by decide⟩)]
      rfl
  | m + 1, k, τ, hk, h4 => by
    obtain ⟨τ', g1, g2, g3⟩ := kx11 m (k + 1) (su τ 175 k (τ 175 (k + 548))) (by omega) (by rw [su_c (by decide)]; exact h4)
    refine ⟨τ', (wl_go ?_).trans g1, (wl_go ?_).trans g2, g3⟩
    · show Mo_keeps_11_b (k : Int) τ = _
      unfold Mo_keeps_11_b
      rw [if_pos (by omega), ix_q (by omega) (by omega), ix_q (by omega) (by omega), ll_q, wr_q (by omega) (by omega), ll_q, show ((k : Int) + 548).toNat = k + 548 by omega, Int.toNat_natCast]
      rfl
    · show Mo_keeps_11_b (k : Int) (xF τ) = _
      unfold Mo_keeps_11_b
      rw [if_pos (by omega), ix_q (by omega) (by omega), ix_q (by omega) (by omega), ll_q, wr_q (by omega) (by omega), ll_q, show ((k : Int) + 548).toNat = k + 548 by omega, Int.toNat_natCast, xF_c (by decide), xF_su (.inl (by decide))]
      rfl
theorem keepX {d : Nat} (h4 : τ 172 4 = d) (h6 : d ≤ 6) : Mo_keeps (xF τ) = Mo_keeps τ := by
  unfold Mo_keeps
  rw [xF_j (by decide) (by decide), h4]
  by_cases z : d = 6
  · subst z
    obtain ⟨τ', g1, g2, g3⟩ := kx11 2740 0 τ (by omega) h4
    rw [if_pos (show ((6 : Nat) : Int) = 6 from rfl), if_pos (show ((6 : Nat) : Int) = 6 from rfl), show Mo_keeps_11_w 0 τ = some τ' from g1, show Mo_keeps_11_w 0 (xF τ) = some (xF τ') from g2, b1_q, b1_q]
    exact kx52 (d := 5) (by decide) 548 0 τ' (by omega) g3
  · rw [if_neg (by omega), if_neg (by omega), b1_q, b1_q]
    exact kx52 (d := d) (by omega) 548 0 τ (by omega) h4
def IvM (τ : Sg) : Prop := τ 172 26 = 1 ∧ τ 172 27 = -1 ∧ ∃ d : Nat, d ≤ 6 ∧ τ 172 4 = d
theorem okM : okK Mo_keeps IvM := by
  refine ⟨fun τ h => ?_, fun τ τ' h1 _ h => ?_⟩
  · obtain ⟨h1, h2, d, h3, h4⟩ := h
    obtain ⟨τ', m1, m2, m3, m4, m5, m6, m7, m8⟩ := kpM h4 h3
    exact ⟨τ', m1, by rw [m6, h1], by rw [m7, h2], m8, m5, m6, m7, _, by omega, m2⟩
  · unfold IvM at h ⊢
    rw [h1]; exact h
/-- the reference's loop is made of such minutes -/
theorem wr_add (a b : Int) : wr (wr a + b) = wr (a + b) := by unfold wr; exact Int.bmod_add_bmod
theorem mnL2 {n : Nat} (hn : n ≤ 1000) : ∀ (m k : Nat) (acc : Int) (τ : Sg) (x : Int) (τ' : Sg), k + m ≤ n → mnK Mo_keeps m acc τ = some (x, τ') → Mo_minutes_31_w (n : Int) (wr acc) (k : Int) τ = Mo_minutes_31_w (n : Int) (wr x) ((k + m : Nat) : Int) τ'
  | 0, k, acc, τ, x, τ', hk, h => by
    unfold mnK at h
    cases h
    rfl
  | m + 1, k, acc, τ, x, τ', hk, h => by
    rw [mnK_s] at h
    cases hK : Mo_keeps τ with
    | none => rw [hK] at h; cases h
    | some τ1 =>
      rw [hK, b1_q] at h
      cases hm : Mo_aMinute τ1 with
      | none => rw [hm] at h; cases h
      | some p =>
        obtain ⟨r, τ2⟩ := p
        rw [hm, b2_q] at h
        rw [show k + (m + 1) = (k + 1) + m by omega, ← mnL2 hn m (k + 1) _ τ2 x τ' (by omega) h]
        refine wl_go ?_
        show Mo_minutes_31_b (n : Int) (wr acc) (k : Int) τ = _
        unfold Mo_minutes_31_b
        rw [if_pos (by omega), hK, b1_q, hm, b2_q, wr_add, wr_q (n := (k : Int) + 1) (by omega) (by omega), ll_q, ll_q]
        rfl
/-- the last minutes: each is kept -/
theorem mn2 {L : Nat} {bef : Int} (hL : L ≤ 6) : ∀ (r k c d m : Nat) (acc : Int) (σ τ : Sg), k + r = L → CR 2 0 σ τ → PG c d m σ τ → IM σ τ → RD σ τ → τ 172 27 = -1 → τ 173 0 + r ≤ 99999 → ∃ σ' τ', Td_minutes_76_w (L : Int) bef (k : Int) σ = Td_minutes_76_w (L : Int) bef (L : Int) σ' ∧ mnK Mo_keeps r acc τ = some (acc + (τ' 173 3 - τ 173 3), τ') ∧ CR 2 0 σ' τ' ∧ PG (min (c + r) 6) (min (d + r) 6) (min (m + r) 6) σ' τ' ∧ IM σ' τ' ∧ RD σ' τ' ∧ τ' 173 0 = τ 173 0 + r
  | 0, k, c, d, m, acc, σ, τ, hk, hC, hP, hI, hR, h27, h0 => by
    have hb := hP.2.2.1
    refine ⟨σ, τ, by rw [show k = L by omega], by unfold mnK; rw [Int.sub_self, Int.add_zero], hC, ?_, hI, hR, by omega⟩
    rw [show min (c + 0) 6 = c by omega, show min (d + 0) 6 = d by omega, show min (m + 0) 6 = m by omega]; exact hP
  | r + 1, k, c, d, m, acc, σ, τ, hk, hC, hP, hI, hR, h27, h0 => by
    have hWR : WR 1 σ (τ 173) := ⟨hC.2.2.1, hC.2.2.2.1, by omega, hC.2.2.2.2.2.1, hC.2.2.2.2.2.2 rfl⟩
    obtain ⟨σ1, τ1, k1, k2, k3, k4, k5, k6, k7, k8, k9⟩ := keepB hWR hP hI hR
    obtain ⟨σx, x1, -, -, -, -, -, x7⟩ := kpC hC.2.2.1 hC.2.2.2.1 hP.1 (by have := hP.2.2.1; omega) hP.2.2.2.1
    have ex : σ1 = σx := by rw [k1] at x1; exact Option.some.inj x1
    subst ex
    have e152 : σ1 152 = σ 152 := x7 152 (by decide) (by decide)
    obtain ⟨w1, w2, w3, w4, w5⟩ := k3
    have c2 := hC.2.1
    have C1 : CR 2 0 σ1 τ1 := ⟨.inl ⟨rfl, rfl⟩, ⟨by rw [e152]; exact c2.1, by rw [e152]; exact c2.2.1, by omega, by rw [e152, c2.2.2.2.1, h27, k8], .inl k8⟩, w1, w2, fun j hj => (w4.1 j hj).1, w4, fun _ => w5⟩
    obtain ⟨σ2, τ2, p1, p2, C2, F2, p5⟩ := C1.pass (by rw [k9]; omega)
    obtain ⟨v1, v2, v3, v4⟩ := endC C2 F2.x (by rw [F2.2.2.1 172 (by decide) (by decide) (by decide)]) (F2.2.2.1 175 (by decide) (by decide) (by decide)) k4 k5 k6 (by rw [p5, k9]; omega)
    obtain ⟨σ', τ', g1, g2, g3, g4, g5, g6, g7⟩ := mn2 hL r (k + 1) _ _ _ (acc + (τ2 173 3 - τ1 173 3)) σ2 τ2 (by omega) C2 v2 v3 v4 (by rw [F2.2.2.1 172 (by decide) (by decide) (by decide)]; exact k8) (by rw [p5, k9]; omega)
    rw [show min (min (c + 1) 6 + r) 6 = min (c + (r + 1)) 6 by omega, show min (min (d + 1) 6 + r) 6 = min (d + (r + 1)) 6 by omega, show min (min (m + 1) 6 + r) 6 = min (m + (r + 1)) 6 by omega] at g4
    refine ⟨σ', τ', ?_, ?_, g3, g4, g5, g6, by rw [g7, p5, k9]; omega⟩
    · rw [← g1]
      refine wl_go ?_
      show Td_minutes_76_b (L : Int) bef (k : Int) σ = _
      unfold Td_minutes_76_b
      rw [if_pos (by omega), k1, b1_q, p1, b1_q, wr_q (by omega) (by omega), ll_q]
      rfl
    · rw [mnK_s, k2, b1_q, p2, b2_q, g2, k9]
      congr 1
      congr 1
      omega
theorem p_minutes (h : Inv σ τ) (a : Int) : Same2 (Td_minutes a σ) (Mo_minutes a τ) := by
  obtain ⟨hT, hW, hM9, -⟩ := h.1
  have b0 := hW.1
  unfold Td_minutes Mo_minutes
  rw [within_q, isIn_q, b1_q, b1_q]
  by_cases ha : 1 ≤ a ∧ a ≤ 300
  · rw [if_pos ha, i10, i10, show σ 2 0 = τ 173 0 from hT.1, wr_q (n := τ 173 0 + a) (by omega) (by omega)]
    by_cases hz : 99999 < τ 173 0 + a
    · rw [if_pos hz, if_pos hz]; exact ⟨_, _, _, rfl, rfl, h⟩
    · rw [if_neg hz, if_neg hz, ll_q]
      obtain ⟨n, hn⟩ := Int.eq_ofNat_of_zero_le (show 0 ≤ a by omega)
      have hn : a = (n : Int) := hn
      subst hn
      obtain ⟨c, hP⟩ := PG.of h.2.1
      -- the reference may as well begin in truth
      have hX : Inv σ (xF τ) := h.scr (fun _ _ => rfl) rfl rfl rfl (fun k hk => xF_c (by omega)) (fun j hj => xF_j (by omega) (by omega))
      have x26 : xF τ 172 26 = 1 := by unfold xF; rw [su_s, up_n (by decide), su_s, up_a]
      have x27 : xF τ 172 27 = -1 := by unfold xF; rw [su_s, up_a]
      have first : Mo_minutes_31_w (n : Int) 0 0 τ = Mo_minutes_31_w (n : Int) 0 0 (xF τ) := by
        have e : Mo_minutes_31_b (n : Int) 0 0 (xF τ) = Mo_minutes_31_b (n : Int) 0 0 τ := by
          unfold Mo_minutes_31_b
          rw [if_pos (by omega), if_pos (by omega), keepX hP.2.1 (by have := hP.2.2.1; omega)]
        show wl _ _ = wl _ _
        rw [wl_eq, wl_eq (a := (0, 0, xF τ))]
        show (Mo_minutes_31_b (n : Int) 0 0 τ).bind _ = (Mo_minutes_31_b (n : Int) 0 0 (xF τ)).bind _
        rw [e]
      obtain ⟨c', hPX⟩ := PG.of hX.2.1
      obtain ⟨σ1, q1, q2, q3, q4, q5⟩ := begC hX.1 hPX hX.2.2.1 hX.2.2.2 x26 x27
      have w0X : xF τ 173 0 = τ 173 0 := by rw [xF_c (by decide)]
      have hb' := hPX.2.2.1
      obtain ⟨L, hL⟩ : ∃ L, L = min n 6 := ⟨_, rfl⟩
      obtain ⟨σ2, τ2, g1, g2, g3, g4, g5, g6⟩ := q2.go okM ⟨x26, x27, c', by omega, hPX.2.1⟩ (n := n - L) (by omega) (by rw [w0X]; omega) 0
      have hP2 : ∃ d m, PG c' d m σ2 τ2 ∧ (min (c' + L) 6 = min (d + L) 6 ∧ min (c' + L) 6 = min (m + L) 6) := by
        by_cases hz6 : n ≤ 6
        · have e0 : n - L = 0 := by omega
          rw [e0] at g1 g2
          unfold mnK at g2
          have e2 : xF τ = τ2 := (Prod.mk.inj (Option.some.inj g2)).2
          subst e2
          have eg : σ2 = σ1 := by
            have : Co_go ((0 : Nat) : Int) σ1 = some σ1 := by
              have b0' := q2.WF.1
              unfold Co_go
              rw [q2.tn, isT_q q2.tkk, q2.TR.1, wr_q (by omega) (by omega), ll_q]
              refine wl_end ?_
              show Co_go_12_b ((0 : Nat) : Int) _ 0 σ1 = _
              unfold Co_go_12_b
              rw [if_neg (by decide)]
            rw [this] at g1
            exact (Option.some.inj g1).symm
          rw [eg]
          exact ⟨c', c', q3, rfl, rfl⟩
        · obtain ⟨i1, i2, d, i3, i4⟩ := g5
          refine ⟨d, 0, ⟨?_, i4, by omega, ?_, fun i hi => by omega⟩, by omega⟩
          · rw [g4.1 61 (by omega) (by omega) (by omega) (by omega) (by omega)]; exact q3.1
          · rw [g4.1 61 (by omega) (by omega) (by omega) (by omega) (by omega)]; exact q3.2.2.2.1
      obtain ⟨d, m, hP2, hP3⟩ := hP2
      have e141 : σ2 141 = σ1 141 := g4.1 141 (by omega) (by omega) (by omega) (by omega) (by omega)
      have hI2 : IM σ2 τ2 := IM.agr q4 (by rw [g4.1 0 (by omega) (by omega) (by omega) (by omega) (by omega)]) (fun k a b => g4.1 k (by omega) (by omega) (by omega) (by omega) (by omega)) (g4.2.2.2.2.2.2 5 (by decide) (by decide) (by decide)) (g4.2.2.1 174 (by decide) (by decide) (by decide) (by decide) (by decide))
      have hR2 : RD σ2 τ2 := RD.agr q5 (by rw [e141]) (by rw [e141]) (by rw [e141]) (g4.1 145 (by omega) (by omega) (by omega) (by omega) (by omega)) (g4.2.2.2.2.2.2 16 (by decide) (by decide) (by decide)) (g4.2.2.2.2.2.2 23 (by decide) (by decide) (by decide)) (g4.2.2.2.2.2.2 25 (by decide) (by decide) (by decide)) (g4.2.2.1 180 (by decide) (by decide) (by decide) (by decide) (by decide))
      obtain ⟨σ3, τ3, r1, r2, r3, r4, r5, r6, r7⟩ := mn2 (L := L) (bef := τ 173 3) (by omega) L 0 c' d m (0 + (τ2 173 3 - xF τ 173 3)) σ2 τ2 (by omega) g3 hP2 hI2 hR2 g5.2.1 (by rw [g6, w0X]; omega)
      rw [← hP3.1, ← hP3.2] at r4
      have w3X : xF τ 173 3 = τ 173 3 := by rw [xF_c (by decide)]
      have a1 := mnL2 (n := n) (by omega) (n - L) 0 0 (xF τ) _ τ2 (by omega) g2
      have a2 := mnL2 (n := n) (by omega) L (0 + (n - L)) _ τ2 _ τ3 (by omega) r2
      refine ⟨wr (τ3 173 3 - τ 173 3), σ3, τ3, ?_, ?_, ⟨r3.2.2.1, r3.2.2.2.1, by rw [r7, g6, w0X]; omega, r3.2.2.2.2.2.1, r3.2.2.2.2.2.2 rfl⟩, r4.to, r5, r6⟩
      · rw [show σ 2 2 = τ 173 3 from hT.2.2.1, q1, b1_q, min_q, b1_q, show min (n : Int) 6 = ((L : Nat) : Int) by omega, wr_q (by omega) (by omega), show (n : Int) - ((L : Nat) : Int) = ((n - L : Nat) : Int) by omega, g1, b1_q, show Td_minutes_76_w (L : Int) (τ 173 3) 0 σ2 = _ from r1]
        refine wl_end ?_
        show Td_minutes_76_b (L : Int) (τ 173 3) (L : Int) σ3 = _
        unfold Td_minutes_76_b
        rw [if_neg (by omega), show σ3 2 2 = τ3 173 3 from r3.2.2.1.2.2.1]
      · rw [first]
        have e00 : Mo_minutes_31_w (n : Int) 0 0 (xF τ) = Mo_minutes_31_w (n : Int) (wr 0) ((0 : Nat) : Int) (xF τ) := by rw [wr_q (n := 0) (by decide) (by decide)]; rfl
        rw [e00, a1, a2, show (0 + (n - L) + L : Nat) = n by omega]
        refine wl_end ?_
        show Mo_minutes_31_b (n : Int) _ (n : Int) τ3 = _
        unfold Mo_minutes_31_b
        rw [if_neg (by omega), w3X, show (0 : Int) + (τ2 173 3 - τ 173 3) + (τ3 173 3 - τ2 173 3) = τ3 173 3 - τ 173 3 by omega]
  · rw [if_neg ha, i00, i00]; exact ⟨_, _, _, rfl, rfl, h⟩
end Minutes
