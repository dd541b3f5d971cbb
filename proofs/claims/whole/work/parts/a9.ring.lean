/-! ring, undo -/
section Ring
variable {σ τ : Sg} {t : Nat} {th : Int}
theorem rgC {n : Nat} (hn : n ≤ 60) (htk : tk t = true) (htt : t = 2 ∨ t = 153) : ∀ (m i : Nat) (σ : Sg), i + m = n → (σ 152 2).toNat = t → σ t 2 = n → ∃ σ', Co_ringUp_52_w (i : Int) σ = Co_ringUp_52_w (n : Int) σ' ∧ (∀ j, i ≤ j → j < n → σ' (t + 12) j = -1) ∧ (∀ j, j < i → σ' (t + 12) j = σ (t + 12) j) ∧ ∀ c, c ≠ t + 12 → σ' c = σ c
  | 0, i, σ, hi, _, _ => ⟨σ, by rw [show i = n by omega], fun j a b => by omega, fun _ _ => rfl, fun _ _ => rfl⟩
  | m + 1, i, σ, hi, h1, h2 => by
    obtain ⟨σ', g1, g2, g3, g4⟩ := rgC hn htk htt m (i + 1) (su σ (t + 12) i (-1)) (by omega) (by rw [su_c (by omega)]; exact h1) (by rw [su_c (by omega)]; exact h2)
    refine ⟨σ', ?_, fun j a b => ?_, fun j a => by rw [g3 j (by omega), su_s, up_n (by omega)], fun c hc => by rw [g4 c hc, su_c hc]⟩
    · rw [← g1]
      refine wl_go ?_
      show Co_ringUp_52_b (i : Int) σ = _
      unfold Co_ringUp_52_b
      rw [h1, isT_q htk, h2, if_pos (by omega), isT_q htk, ix_q (by omega) (by omega), Int.toNat_natCast, ll_q, wr_q (by omega) (by omega), ll_q]
      rfl
    · by_cases e : j = i
      · rw [e, g3 i (by omega), su_s, up_a]
      · exact g2 j (by omega) b
theorem rgM {n : Nat} (hn : n ≤ 60) : ∀ (m i : Nat) (τ : Sg), i + m = n → τ 173 3 = n → ∃ τ', Mo_ring_42_w (i : Int) τ = Mo_ring_42_w (n : Int) τ' ∧ (∀ j, i ≤ j → j < n → mW (τ' 173) j 8 = -1) ∧ (∀ x, (∀ j, i ≤ j → j < n → x ≠ 8 + 9 * j + 8) → τ' 173 x = τ 173 x) ∧ ∀ c, c ≠ 173 → τ' c = τ c
  | 0, i, τ, hi, _ => ⟨τ, by rw [show i = n by omega], fun j a b => by omega, fun _ _ => rfl, fun _ _ => rfl⟩
  | m + 1, i, τ, hi, h3 => by
    obtain ⟨τ', g1, g2, g3, g4⟩ := rgM hn m (i + 1) (su τ 173 (8 + 9 * i + 8) (-1)) (by omega) (by rw [su_s, up_n (by omega)]; exact h3)
    refine ⟨τ', ?_, fun j a b => ?_, fun x hx => by rw [g3 x (fun j a b => hx j (by omega) b), su_s, up_n (hx i (by omega) (by omega))], fun c hc => by rw [g4 c hc, su_c hc]⟩
    · rw [← g1]
      refine wl_go ?_
      show Mo_ring_42_b (i : Int) τ = _
      unfold Mo_ring_42_b
      rw [h3, if_pos (by omega), show Mo_puts0 (i : Int) 8 (-1) τ = _ from puts_q (f := 8) (by omega) (by decide), b1_q, wr_q (by omega) (by omega), ll_q]
      rfl
    · by_cases e : j = i
      · rw [e]
        show τ' 173 (8 + 9 * i + 8) = -1
        rw [g3 _ (fun j a b => by omega), su_s, up_a]
      · exact g2 j (by omega) b
/-- no answer waits any more -/
theorem crRng (h : CR t th σ τ) {n : Nat} (hn : τ 173 3 = n) : ∃ σ' τ', Co_ringUp_52_w 0 σ = Co_ringUp_52_w (n : Int) σ' ∧ Mo_ring_42_w 0 τ = Mo_ring_42_w (n : Int) τ' ∧ CR t th (su σ' t 5 0) τ' ∧ FR t σ (su σ' t 5 0) τ τ' ∧ (∀ j, j < 8 → τ' 173 j = τ 173 j) ∧ (σ' 152 2).toNat = t ∧ σ' t 2 = n := by
  have htt := h.tt
  have b60 := h.WF.2.2.1
  have s2 : σ t 2 = n := h.TR.2.2.1.trans hn
  obtain ⟨σ', c1, c2, c3, c4⟩ := rgC (n := n) (by omega) h.tkk htt n 0 σ (by omega) h.tn s2
  obtain ⟨τ', m1, m2, m3, m4⟩ := rgM (n := n) (by omega) n 0 τ (by omega) hn
  have lo : ∀ j, j < 8 → τ' 173 j = τ 173 j := fun j hj => m3 j (fun _ _ _ => by omega)
  have hi' : ∀ j, 548 ≤ j → τ' 173 j = τ 173 j := fun j hj => m3 j (fun _ _ _ => by omega)
  have mo : ∀ i f, f < 8 → mW (τ' 173) i f = mW (τ 173) i f := fun i f hf => m3 _ (fun _ _ _ => by omega)
  have ct : su σ' t 5 0 t = up (σ t) 5 0 := by rw [su_s, c4 t (by omega)]
  have cs : ∀ c, c ≠ t → c ≠ t + 12 → su σ' t 5 0 c = σ c := fun c a b => by rw [su_c a, c4 c b]
  have hT : TR t (su σ' t 5 0) (τ' 173) := by
    obtain ⟨q1, q2, q3, q4, q5, q6, q7, q8⟩ := h.TR
    unfold TR
    rw [ct, lo 0 (by decide), lo 1 (by decide), lo 2 (by decide), lo 3 (by decide), up_n (by decide), up_n (by decide), up_n (by decide), up_n (by decide), up_n (by decide), up_a]
    refine ⟨q1, q2, q3, q4, ?_, ?_, fun j hj => ?_, fun i f hi hf => ?_⟩
    · rw [opn_agr (w := τ 173) _ (fun i _ => ⟨mo i 2 (by decide), mo i 7 (by decide)⟩)]; exact q5
    · rw [awt_none _ (fun i hi => m2 i (by omega) (by omega))]
    · rw [cs _ (by omega) (by omega), cs _ (by omega) (by omega), lo _ (by omega), lo _ (by omega)]; exact q7 j hj
    · by_cases e : f = 8
      · subst e
        rw [m2 i (by omega) (by omega), su_c (by omega)]
        show σ' (t + 12) i = -1
        exact c2 i (by omega) (by omega)
      · rw [cs _ (by omega) (by omega), mo i f (by omega)]; exact q8 i f hi hf
  have hW : WF (τ' 173) := by
    obtain ⟨w1, w2, w3, w4, w5⟩ := h.WF
    unfold WF
    rw [lo 0 (by decide), lo 2 (by decide), lo 3 (by decide)]
    refine ⟨w1, w2, w3, fun j hj => by rw [lo _ (by omega), lo _ (by omega)]; exact w4 j hj, fun i hi => ?_⟩
    have e8 := m2 i (by omega) (by omega)
    have q := w5 i hi
    unfold MF at q ⊢
    rw [lo 0 (by decide), mo i 0 (by decide), mo i 1 (by decide), mo i 2 (by decide), mo i 3 (by decide), mo i 4 (by decide), mo i 5 (by decide), mo i 6 (by decide), mo i 7 (by decide), e8]
    obtain ⟨p1, p2, p3, p4, p5, p6, p7, p8, p9, p10⟩ := q
    refine ⟨p1, p2, p3, p4, p5, p6, ?_, p8, .inl rfl, fun k hk => by rw [mo k 1 (by decide)]; exact p10 k hk⟩
    rcases p7 with p7 | ⟨k, k1, k2, k3, k4⟩
    · exact .inl p7
    · exact .inr ⟨k, k1, k2, by rw [mo k 0 (by decide)]; exact k3, by rw [mo k 1 (by decide)]; exact k4⟩
  obtain ⟨C1, C2⟩ := h.talk (τ' := τ') hT hW rfl m4 hi' (lo 2 (by decide)) (fun c hc => cs c (by omega) (by omega))
  exact ⟨σ', τ', c1, m1, C1, C2, lo, by rw [c4 152 (by omega)]; exact h.tn, by rw [c4 t (by omega)]; exact s2⟩
theorem p_ring (h : Inv σ τ) : Same2 (Td_ring σ) (Mo_ring τ) := by
  obtain ⟨cc, σ1, σ2, τ1, k1, k2, k3, C, P, I, R, e173⟩ := keepI h
  have hM9 := h.1.2.2.1
  have htk := C.tkk
  have x0 := C.TR.2.2.2.2.2.2.1 0 (by decide)
  have y0 := C.WF.2.2.2.1 0 (by decide)
  have x1 := C.TR.2.2.2.2.2.2.1 1 (by decide)
  have y1 := C.WF.2.2.2.1 1 (by decide)
  rw [show (4 + 0 : Nat) = 4 from rfl] at x0 y0
  rw [show (4 + 1 : Nat) = 5 from rfl] at x1 y1
  obtain ⟨A1, A2⟩ := C.crs (one := 0) (by decide) (v := max 0 (τ1 173 4 - 20)) (by omega)
  obtain ⟨B1, B2⟩ := A1.crs (one := 1) (by decide) (v := max 0 (τ1 173 5 - 20)) (by omega)
  obtain ⟨n, hn⟩ := Int.eq_ofNat_of_zero_le C.WF.2.2.1.1
  have hn : τ1 173 3 = (n : Int) := hn
  obtain ⟨σ3, τ3, r1, r2, R1, R2, r5, r6, r7⟩ := crRng B1 (n := n) (by rw [su_s, up_n (by decide), su_s, up_n (by decide)]; exact hn)
  obtain ⟨σ4, τ4, n1, n2, N1, N2, n5, -, -, -⟩ := R1.note 4 (-1) (-1)
  have F := ((A2.trans B2).trans R2).trans N2
  have w0 : τ4 173 0 = τ1 173 0 := by rw [n5 0 (by decide) (by decide), r5 0 (by decide), su_s, up_n (by decide), su_s, up_n (by decide)]
  obtain ⟨w1, w2, w3, w4⟩ := endC N1 F.x (by rw [F.2.2.1 172 (by decide) (by decide) (by decide)]) (F.2.2.1 175 (by decide) (by decide) (by decide)) P I R (by rw [w0, e173]; exact hM9)
  have z0 := N1.TR.2.2.2.2.2.2.1 0 (by decide)
  have z1 := N1.TR.2.2.2.2.2.2.1 1 (by decide)
  refine ⟨wr (τ4 173 4 + τ4 173 5), σ4, τ4, ?_, ?_, w1, w2.to, w3, w4⟩
  · unfold Td_ring Co_ringUp Ta_crossTogether
    have q1 : su σ2 (2 + 1) 0 (max 0 (τ1 173 4 - 20)) 152 = σ2 152 := su_c (by decide)
    have q2 : su σ2 (2 + 1) 0 (max 0 (τ1 173 4 - 20)) (2 + 1) 1 = τ1 173 5 := by rw [su_s, up_n (by decide)]; exact x1.1
    rw [k1, b1_q, k3, b1_q, C.tn, isT_q htk, isT_q htk, x0.1, wr_q (by omega) (by omega), max_q, b1_q, ll_q, q1, C.tn, isT_q htk, isT_q htk, q2, wr_q (by omega) (by omega), max_q, b1_q, ll_q, r1]
    have e : Co_ringUp_52_w (n : Int) σ3 = some σ4 := by
      refine wl_end ?_
      show Co_ringUp_52_b (n : Int) σ3 = _
      unfold Co_ringUp_52_b
      rw [r6, isT_q htk, r7, if_neg (by omega), isT_q htk, ll_q, n1, b1_q]
    rw [e, b1_q, b1_q, z0.1, z1.1]
  · unfold Mo_ring
    rw [k2, b1_q]
    have g1 : Mo_ring_6_b 0 τ1 = some (.inl (1, su τ1 173 4 (max 0 (τ1 173 4 - 20)))) := by
      unfold Mo_ring_6_b
      rw [if_pos (by decide), ix_q (by decide) (by decide), show (4 + (0 : Int)).toNat = 4 from rfl, wr_q (n := τ1 173 4 - 20) (by omega) (by omega), greater_q, b1_q, ix_q (by decide) (by decide), ll_q, show wr (0 + 1) = 1 from wr_q (by decide) (by decide), ll_q]
    have y5 : su τ1 173 4 (max 0 (τ1 173 4 - 20)) 173 5 = τ1 173 5 := by rw [su_s, up_n (by decide)]
    have g2 : Mo_ring_6_b 1 (su τ1 173 4 (max 0 (τ1 173 4 - 20))) = some (.inl (2, su (su τ1 173 4 (max 0 (τ1 173 4 - 20))) 173 5 (max 0 (τ1 173 5 - 20)))) := by
      unfold Mo_ring_6_b
      rw [if_pos (by decide), ix_q (by decide) (by decide), show (4 + (1 : Int)).toNat = 5 from rfl, y5, wr_q (n := τ1 173 5 - 20) (by omega) (by omega), greater_q, b1_q, ix_q (by decide) (by decide), ll_q, show wr (1 + 1) = 2 from wr_q (by decide) (by decide), ll_q]
    have e : Mo_ring_42_w (n : Int) τ3 = some (.inr (wr (τ4 173 4 + τ4 173 5), τ4)) := by
      refine wl_end ?_
      show Mo_ring_42_b (n : Int) τ3 = _
      unfold Mo_ring_42_b
      rw [r5 3 (by decide), su_s, up_n (by decide), su_s, up_n (by decide), hn, if_neg (by omega), n2, b1_q]
    have g3 : Mo_ring_6_b 2 (su (su τ1 173 4 (max 0 (τ1 173 4 - 20))) 173 5 (max 0 (τ1 173 5 - 20))) = some (.inr (wr (τ4 173 4 + τ4 173 5), τ4)) := by
      unfold Mo_ring_6_b
      rw [if_neg (by decide)]
      exact r2.trans e
    exact (wl_go g1).trans ((wl_go g2).trans (wl_end g3))
end Ring
