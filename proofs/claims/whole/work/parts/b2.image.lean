/-! image -/
section Image
variable {σ τ : Sg} {t a : Nat}
theorem shC (hd : a + 3 ≤ t ∨ t + 3 ≤ a) {n1 n2 : Nat} (l1 : ln (t + 1) = n1) (l2 : ln (a + 1) = n1) (l3 : ln (t + 2) = n2) (l4 : ln (a + 2) = n2) (h2 : 0 ≤ σ a 2) (h3 : 0 ≤ σ a 3) : ∃ σ', Sh_copyFrom t a σ = some σ' ∧ (σ' t 0 = σ a 0 ∧ σ' t 1 = σ a 1 ∧ σ' t 2 = min (σ a 2) n1 ∧ σ' t 3 = min (σ a 3) n2) ∧ (∀ j : Nat, (j : Int) < σ a 2 → j < n1 → σ' (t + 1) j = σ (a + 1) j) ∧ (∀ j : Nat, (j : Int) < σ a 3 → j < n2 → σ' (t + 2) j = σ (a + 2) j) ∧ ∀ c, (c < t ∨ t + 3 ≤ c) → σ' c = σ c := by
  have hat : a ≠ t := by omega
  obtain ⟨σ6, e6⟩ : ∃ x, x = su (su (su (su σ t 0 (σ a 0)) t 1 (σ a 1)) t 2 (min (σ a 2) n1)) t 3 (min (σ a 3) n2) := ⟨_, rfl⟩
  have k2 : ∀ c, c ≠ t → σ6 c = σ c := fun c hc => by rw [e6, su_c hc, su_c hc, su_c hc, su_c hc]
  have k30 : σ6 t 0 = σ a 0 := by rw [e6, su_s, up_n (by decide), su_s, up_n (by decide), su_s, up_n (by decide), su_s, up_a]
  have k31 : σ6 t 1 = σ a 1 := by rw [e6, su_s, up_n (by decide), su_s, up_n (by decide), su_s, up_a]
  have k32 : σ6 t 2 = min (σ a 2) n1 := by rw [e6, su_s, up_n (by decide), su_s, up_a]
  have k33 : σ6 t 3 = min (σ a 3) n2 := by rw [e6, su_s, up_a]
  refine ⟨cpy (cpy σ6 (a + 1) (t + 1) (min (σ a 2) n1)) (a + 2) (t + 2) (min (σ a 3) n2), ?_, ⟨?_, ?_, ?_, ?_⟩, fun j a1 a2 => ?_, fun j a1 a2 => ?_, fun c hc => ?_⟩
  · have k3 : Sh_copyFrom t a σ = cx (σ6 t 2) (ln (a + 1) : Int) (ln (t + 1) : Int) (ll (cpy σ6 (a + 1) (t + 1) (σ6 t 2)) fun σ7 => cx (σ7 t 3) (ln (a + 2) : Int) (ln (t + 2) : Int) (ll (cpy σ7 (a + 2) (t + 2) (σ7 t 3)) fun σ8 => some σ8)) := by
      unfold Sh_copyFrom
      rw [ll_q, ll_q, su_c hat, su_c hat, min_q, b1_q, ll_q, su_c hat, su_c hat, su_c hat, min_q, b1_q, ll_q, l1, l3, e6]
    rw [k3, k32, l1, l2, l3, l4, cx_q (by omega), ll_q, cpy_c (by omega), k33, cx_q (by omega), ll_q]
  · rw [cpy_c (by omega), cpy_c (by omega)]; exact k30
  · rw [cpy_c (by omega), cpy_c (by omega)]; exact k31
  · rw [cpy_c (by omega), cpy_c (by omega)]; exact k32
  · rw [cpy_c (by omega), cpy_c (by omega)]; exact k33
  · rw [cpy_c (by omega), cpy_a (by omega), k2 _ (by omega)]
  · rw [cpy_a (by omega), cpy_c (by omega), k2 _ (by omega)]
  · rw [cpy_c (by omega), cpy_c (by omega), k2 c (by omega)]
theorem HR.cop {s c s' c' w : Nat → Int} (h : HR s c w) (e : s' 0 = s 0 ∧ s' 1 = s 1 ∧ s' 2 = min (s 2) (64 : Nat) ∧ s' 3 = min (s 3) (0 : Nat)) (ec : ∀ j : Nat, (j : Int) < s 2 → j < 64 → c' j = c j) : HR s' c' w := by
  obtain ⟨h1, h2, h3, h4, h5⟩ := h
  refine ⟨by omega, by omega, fun z => ?_, fun j hj => ?_, h5⟩
  · have := h3 z; omega
  · have := h3 (by omega)
    rw [ec j (by omega) (by omega)]; exact h4 j hj
theorem SR.cop {s c s' c' w : Nat → Int} (h : SR s c w) (e : s' 0 = s 0 ∧ s' 1 = s 1 ∧ s' 2 = min (s 2) (96 : Nat) ∧ s' 3 = min (s 3) (0 : Nat)) (ec : ∀ j : Nat, (j : Int) < s 2 → j < 96 → c' j = c j) : SR s' c' w := by
  obtain ⟨h1, h2, h3, h4⟩ := h
  refine ⟨by omega, by omega, fun z => ?_, fun i hi => ?_⟩
  · have := h3 z; omega
  · have := h3 (by omega)
    have q := h4 i hi
    rw [ec (6 * i) (by omega) (by omega), ec (6 * i + 1) (by omega) (by omega), ec (6 * i + 2) (by omega) (by omega), ec (6 * i + 3) (by omega) (by omega), ec (6 * i + 4) (by omega) (by omega), ec (6 * i + 5) (by omega) (by omega)]
    exact q
theorem BR.cop {s c s' c' w : Nat → Int} (h : BR s c w) (e : s' 0 = s 0 ∧ s' 1 = s 1 ∧ s' 2 = min (s 2) (16 : Nat) ∧ s' 3 = min (s 3) (0 : Nat)) (ec : ∀ j : Nat, (j : Int) < s 2 → j < 16 → c' j = c j) : BR s' c' w := by
  obtain ⟨h1, h2, h3, h4⟩ := h
  refine ⟨by omega, by omega, fun z => ?_, fun j hj => ?_⟩
  · have := h3 z; omega
  · have := h3 (by omega)
    rw [ec j (by omega) (by omega)]; exact h4 j hj
theorem LR.cop {s c d s' c' d' w : Nat → Int} (h : LR s c d w) (e : s' 0 = s 0 ∧ s' 1 = s 1 ∧ s' 2 = min (s 2) (64 : Nat) ∧ s' 3 = min (s 3) (400 : Nat)) (ec : ∀ j : Nat, (j : Int) < s 2 → j < 64 → c' j = c j) (ed : ∀ j : Nat, (j : Int) < s 3 → j < 400 → d' j = d j) : LR s' c' d' w := by
  obtain ⟨h1, h2, h3, h4, h5, h6⟩ := h
  have e3 : s' 3 = s 3 := by omega
  refine ⟨by omega, by omega, fun z => ?_, by omega, fun i hi => ?_, fun j hj => ?_⟩
  · have := h3 z; omega
  · have := h3 (by omega)
    have q := h5 i hi
    rw [ec (4 * i) (by omega) (by omega), ec (4 * i + 1) (by omega) (by omega), ec (4 * i + 2) (by omega) (by omega), ec (4 * i + 3) (by omega) (by omega), e3]
    exact q
  · rw [e3] at hj
    rw [ed j hj (by omega)]; exact h6 j hj
theorem woC {w : Nat → Int} (hta : (t = 31 ∧ a = 1) ∨ (t = 1 ∧ a = 31)) (h : WR a σ w) : ∃ σ', Wo_copyFrom t a σ = some σ' ∧ WR t σ' w ∧ ∀ c, (c < t ∨ t + 30 ≤ c) → σ' c = σ c := by
  obtain ⟨hT, hW, h0, ⟨s1, s2, s3, s4, s5, s6, s7⟩, hB⟩ := h
  have hd : a + 30 ≤ t ∨ t + 30 ≤ a := by omega
  obtain ⟨n, hn⟩ := Int.eq_ofNat_of_zero_le hW.2.2.1.1
  have hn : w 3 = (n : Int) := hn
  have b60 := hW.2.2.1
  have b2 := hW.2.1
  have hk : ∀ k, k = 17 ∨ k = 18 ∨ k = 20 ∨ k = 21 ∨ k = 23 ∨ k = 24 ∨ k = 26 ∨ k = 27 → ln (t + k) = ln (1 + k) ∧ ln (a + k) = ln (1 + k) := by
    intro k hk
    rcases hta with ⟨e1, e2⟩ | ⟨e1, e2⟩ <;> subst e1 e2 <;> rcases hk with z | z | z | z | z | z | z | z <;> subst z <;> decide +kernel
  -- the talk
  obtain ⟨σ1, c1, c2, c3, c4, c5⟩ := copC (t := t + 1) (a := a + 1) (σ := σ) (by omega) (n := n) (by omega) (hT.2.2.1.trans hn)
  have hT1 := TR.cop (t := t + 1) hT hn c3 c4 c5
  -- the book
  obtain ⟨σ2, e2⟩ : ∃ x, x = cpy σ1 (a + 14) (t + 14) (w 2 * 4) := ⟨_, rfl⟩
  have k2 : ∀ c, c ≠ t + 14 → σ2 c = σ1 c := fun c hc => by rw [e2, cpy_c hc]
  have o2 : ∀ c, (c < t + 1 ∨ t + 15 ≤ c) → σ2 c = σ c := fun c hc => by rw [k2 c (by omega), c2 c (by omega)]
  -- the texts
  obtain ⟨σ3, x1, x2, x3, x4, x5⟩ := shC (σ := σ2) (t := t + 16) (a := a + 16) (by omega) (n1 := 64) (n2 := 400) ((hk 17 (by omega)).1.trans (by decide +kernel)) ((hk 17 (by omega)).2.trans (by decide +kernel)) ((hk 18 (by omega)).1.trans (by decide +kernel)) ((hk 18 (by omega)).2.trans (by decide +kernel)) (by rw [o2 _ (by omega)]; have := s5.2.1; omega) (by rw [o2 _ (by omega)]; have := s5.2.2.2.1; omega)
  have o3 : ∀ c, (c < t + 1 ∨ t + 19 ≤ c) → σ3 c = σ c := fun c hc => by rw [x5 c (by omega), o2 c (by omega)]
  obtain ⟨σ4, y1, y2, y3, y4, y5⟩ := shC (σ := σ3) (t := t + 19) (a := a + 19) (by omega) (n1 := 64) (n2 := 0) ((hk 20 (by omega)).1.trans (by decide +kernel)) ((hk 20 (by omega)).2.trans (by decide +kernel)) ((hk 21 (by omega)).1.trans (by decide +kernel)) ((hk 21 (by omega)).2.trans (by decide +kernel)) (by rw [o3 _ (by omega)]; have := s2.2.1; omega) (by rw [o3 _ (by omega)]; have := s2.2.1; omega)
  have o4 : ∀ c, (c < t + 1 ∨ t + 22 ≤ c) → σ4 c = σ c := fun c hc => by rw [y5 c (by omega), o3 c (by omega)]
  obtain ⟨σ5, z1, z2, z3, z4, z5⟩ := shC (σ := σ4) (t := t + 22) (a := a + 22) (by omega) (n1 := 96) (n2 := 0) ((hk 23 (by omega)).1.trans (by decide +kernel)) ((hk 23 (by omega)).2.trans (by decide +kernel)) ((hk 24 (by omega)).1.trans (by decide +kernel)) ((hk 24 (by omega)).2.trans (by decide +kernel)) (by rw [o4 _ (by omega)]; have := s3.2.1; omega) (by rw [o4 _ (by omega)]; have := s3.2.1; omega)
  have o5 : ∀ c, (c < t + 1 ∨ t + 25 ≤ c) → σ5 c = σ c := fun c hc => by rw [z5 c (by omega), o4 c (by omega)]
  obtain ⟨σ6, v1, v2, v3, v4, v5⟩ := shC (σ := σ5) (t := t + 25) (a := a + 25) (by omega) (n1 := 16) (n2 := 0) ((hk 26 (by omega)).1.trans (by decide +kernel)) ((hk 26 (by omega)).2.trans (by decide +kernel)) ((hk 27 (by omega)).1.trans (by decide +kernel)) ((hk 27 (by omega)).2.trans (by decide +kernel)) (by rw [o5 _ (by omega)]; have := s4.2.1; omega) (by rw [o5 _ (by omega)]; have := s4.2.1; omega)
  have o6 : ∀ c, (c < t + 1 ∨ t + 28 ≤ c) → σ6 c = σ c := fun c hc => by rw [v5 c (by omega), o5 c (by omega)]
  -- the rest
  obtain ⟨t1, t2, t3⟩ := s6
  obtain ⟨σ7, e7⟩ : ∃ x, x = su σ6 t 4 (w 554) := ⟨_, rfl⟩
  obtain ⟨σ8, e8⟩ : ∃ x, x = cpy (cpy σ7 (a + 28) (t + 28) (w 554)) (a + 29) (t + 29) 8 := ⟨_, rfl⟩
  have o7 : ∀ c, c ≠ t → σ7 c = σ6 c := fun c hc => by rw [e7, su_c hc]
  have o8 : ∀ c, c ≠ t → c ≠ t + 28 → c ≠ t + 29 → σ8 c = σ6 c := fun c p q r => by rw [e8, cpy_c r, cpy_c q, o7 c p]
  have loop : Wo_copyFrom_35_w t a 0 σ2 = some σ8 := by
    have g0 : Wo_copyFrom_35_b t a 0 σ2 = some (.inl (1, σ3)) := by
      unfold Wo_copyFrom_35_b
      rw [if_pos (by decide), ix_q (by decide) (by decide), ix_q (by decide) (by decide)]
      rw [show Sh_copyFrom (t + 15 + 1 + 3 * (0 : Int).toNat) (a + 15 + 1 + 3 * (0 : Int).toNat) σ2 = some σ3 from x1, b1_q, show wr (0 + 1) = 1 from wr_q (by decide) (by decide), ll_q]
    have g1 : Wo_copyFrom_35_b t a 1 σ3 = some (.inl (2, σ4)) := by
      unfold Wo_copyFrom_35_b
      rw [if_pos (by decide), ix_q (by decide) (by decide), ix_q (by decide) (by decide)]
      rw [show Sh_copyFrom (t + 15 + 1 + 3 * (1 : Int).toNat) (a + 15 + 1 + 3 * (1 : Int).toNat) σ3 = some σ4 from y1, b1_q, show wr (1 + 1) = 2 from wr_q (by decide) (by decide), ll_q]
    have g2 : Wo_copyFrom_35_b t a 2 σ4 = some (.inl (3, σ5)) := by
      unfold Wo_copyFrom_35_b
      rw [if_pos (by decide), ix_q (by decide) (by decide), ix_q (by decide) (by decide)]
      rw [show Sh_copyFrom (t + 15 + 1 + 3 * (2 : Int).toNat) (a + 15 + 1 + 3 * (2 : Int).toNat) σ4 = some σ5 from z1, b1_q, show wr (2 + 1) = 3 from wr_q (by decide) (by decide), ll_q]
    have g3 : Wo_copyFrom_35_b t a 3 σ5 = some (.inl (4, σ6)) := by
      unfold Wo_copyFrom_35_b
      rw [if_pos (by decide), ix_q (by decide) (by decide), ix_q (by decide) (by decide)]
      rw [show Sh_copyFrom (t + 15 + 1 + 3 * (3 : Int).toNat) (a + 15 + 1 + 3 * (3 : Int).toNat) σ5 = some σ6 from v1, b1_q, show wr (3 + 1) = 4 from wr_q (by decide) (by decide), ll_q]
    have g4 : Wo_copyFrom_35_b t a 4 σ6 = some (.inr σ8) := by
      unfold Wo_copyFrom_35_b
      have ea : σ6 a 4 = w 554 := by rw [o6 a (by omega)]; exact t1
      have et : su σ6 t 4 (w 554) t 4 = w 554 := by rw [su_s, up_a]
      rw [if_neg (by decide), ea, ll_q, et, cx_q (by omega), ll_q, cx_q (by omega), ll_q, e8, e7]
    exact (wl_go g0).trans ((wl_go g1).trans ((wl_go g2).trans ((wl_go g3).trans (wl_end g4))))
  have hTs : ∀ c, t + 1 ≤ c → c < t + 14 → σ8 c = σ1 c := fun c p q => by rw [o8 c (by omega) (by omega) (by omega), v5 c (by omega), z5 c (by omega), y5 c (by omega), x5 c (by omega), k2 c (by omega)]
  refine ⟨σ8, ?_, ⟨TR.agr hT1 hW.2.2.1 (fun k p q _ => hTs k (by omega) (by omega)) (fun _ _ _ => rfl), hW, h0, ⟨fun j hj => ?_, ?_, ?_, ?_, ?_, ⟨?_, t2, fun j hj => ?_⟩, fun k hk' => ?_⟩, fun j hj => ?_⟩, fun c hc => ?_⟩
  · unfold Wo_copyFrom
    have e3' : σ1 (a + 1) 3 = w 2 := by rw [c2 _ (by omega)]; exact hT.2.2.2.1
    rw [c1, b1_q, e3', wr_q (by omega) (by omega), cx_q (by omega), ll_q, ← e2]
    exact loop
  · have q := s1 j hj
    refine ⟨?_, q.2⟩
    rw [hTs (t + 4) (by omega) (by omega)]
    have := c4 3 j (by decide) (by decide) hj
    rw [show t + 1 + 3 = t + 4 by omega, show a + 1 + 3 = a + 4 by omega] at this
    rw [this]; exact q.1
  · have ha1 : σ3 (a + 19) = σ (a + 19) := o3 _ (by omega)
    have ha2 : σ3 (a + 19 + 1) = σ (a + 19 + 1) := o3 _ (by omega)
    rw [o8 (t + 19) (by omega) (by omega) (by omega), o8 (t + 20) (by omega) (by omega) (by omega), v5 _ (by omega), z5 _ (by omega), v5 _ (by omega), z5 _ (by omega)]
    rw [ha1] at y2 y3
    rw [ha2] at y3
    exact HR.cop s2 y2 y3
  · have ha1 : σ4 (a + 22) = σ (a + 22) := o4 _ (by omega)
    have ha2 : σ4 (a + 22 + 1) = σ (a + 22 + 1) := o4 _ (by omega)
    rw [o8 (t + 22) (by omega) (by omega) (by omega), o8 (t + 23) (by omega) (by omega) (by omega), v5 _ (by omega), v5 _ (by omega)]
    rw [ha1] at z2 z3
    rw [ha2] at z3
    exact SR.cop s3 z2 z3
  · have ha1 : σ5 (a + 25) = σ (a + 25) := o5 _ (by omega)
    have ha2 : σ5 (a + 25 + 1) = σ (a + 25 + 1) := o5 _ (by omega)
    rw [o8 (t + 25) (by omega) (by omega) (by omega), o8 (t + 26) (by omega) (by omega) (by omega)]
    rw [ha1] at v2 v3
    rw [ha2] at v3
    exact BR.cop s4 v2 v3
  · have ha1 : σ2 (a + 16) = σ (a + 16) := o2 _ (by omega)
    have ha2 : σ2 (a + 16 + 1) = σ (a + 16 + 1) := o2 _ (by omega)
    have ha3 : σ2 (a + 16 + 2) = σ (a + 16 + 2) := o2 _ (by omega)
    rw [o8 (t + 16) (by omega) (by omega) (by omega), o8 (t + 17) (by omega) (by omega) (by omega), o8 (t + 18) (by omega) (by omega) (by omega), v5 _ (by omega), z5 _ (by omega), y5 _ (by omega), v5 _ (by omega), z5 _ (by omega), y5 _ (by omega), v5 _ (by omega), z5 _ (by omega), y5 _ (by omega)]
    rw [ha1] at x2 x3 x4
    rw [ha2] at x3
    rw [ha3] at x4
    exact LR.cop s5 x2 x3 x4
  · rw [e8, cpy_c (by omega), cpy_c (by omega), e7, su_s, up_a]
  · have q := t3 j hj
    refine ⟨?_, q.2⟩
    rw [e8, cpy_c (by omega), cpy_a hj, o7 _ (by omega), o6 _ (by omega)]; exact q.1
  · have q := s7 k hk'
    have f1 : ∀ j : Nat, j < 8 → σ8 (t + 29) j = σ (a + 29) j := fun j hj => by rw [e8, cpy_a (by omega), cpy_c (by omega), o7 _ (by omega), o6 _ (by omega)]
    rw [f1 k (by omega), f1 (k + 4) (by omega)]; exact q
  · rw [o8 (t + 14) (by omega) (by omega) (by omega), v5 _ (by omega), z5 _ (by omega), y5 _ (by omega), x5 _ (by omega), e2, cpy_a (by omega), c2 _ (by omega)]
    exact hB j hj
  · rw [o8 c (by omega) (by omega) (by omega), o6 c (by omega)]
theorem WR.agr {W : Nat} {w w' : Nat → Int} (h : WR W σ w) (e : ∀ j, j < 2217 → w' j = w j) : WR W σ w' := by
  obtain ⟨h1, h2, h3, h4, h5⟩ := h
  exact ⟨TR.agr h1 h2.2.2.1 (fun _ _ _ _ => rfl) (fun j _ hj => e j (by omega)), WF.agr h2 (fun j _ hj => e j (by omega)), by rw [e 0 (by decide)]; exact h3, WS.agr h4 (fun j _ hj => e j (by omega)) (fun j _ hj => e j hj) (fun _ _ => rfl) rfl, BK.agr h5 h2.2.1 rfl (e 2 (by decide)) (fun j _ hj => e j (by omega))⟩
/-- the reference's copy -/
theorem imM {a1 : Int} {x y : Nat} (hxy : (a1 = 0 ∧ x = 174 ∧ y = 173) ∨ (a1 ≠ 0 ∧ x = 173 ∧ y = 174)) : ∃ τ', Mo_image_15_w a1 0 τ = Mo_image_15_w a1 2217 τ' ∧ (∀ j, j < 2217 → τ' y j = τ x j) ∧ ∀ c, c ≠ y → τ' c = τ c := by
  have key : ∀ (m k : Nat) (τ1 : Sg), k + m = 2217 → (∀ j, j < k → τ1 y j = τ x j) → (∀ c, c ≠ y → τ1 c = τ c) → ∃ τ', Mo_image_15_w a1 (k : Int) τ1 = Mo_image_15_w a1 2217 τ' ∧ (∀ j, j < 2217 → τ' y j = τ x j) ∧ ∀ c, c ≠ y → τ' c = τ c := by
    intro m
    induction m with
    | zero =>
      intro k τ1 hk h1 h2
      refine ⟨τ1, ?_, fun j hj => h1 j (by omega), h2⟩
      rw [show k = 2217 by omega]
      rfl
    | succ m ih =>
      intro k τ1 hk h1 h2
      obtain ⟨τ', g1, g2⟩ := ih (k + 1) (su τ1 y k (τ x k)) (by omega) (fun j hj => by
        rw [su_s]
        by_cases e : j = k
        · rw [e, up_a]
        · rw [up_n e]; exact h1 j (by omega)) (fun c hc => by rw [su_c hc, h2 c hc])
      refine ⟨τ', ?_, g2⟩
      rw [← g1]
      refine wl_go ?_
      show Mo_image_15_b a1 (k : Int) τ1 = _
      unfold Mo_image_15_b
      rw [if_pos (by omega), wr_q (by omega) (by omega)]
      rcases hxy with ⟨e1, e2, e3⟩ | ⟨e1, e2, e3⟩
      · subst e2 e3
        rw [if_pos e1, ix_q (by omega) (by omega), ix_q (by omega) (by omega), ll_q, ll_q, Int.toNat_natCast, h2 174 (by decide)]
        rfl
      · subst e2 e3
        rw [if_neg e1, ix_q (by omega) (by omega), ix_q (by omega) (by omega), ll_q, ll_q, Int.toNat_natCast, h2 173 (by decide)]
        rfl
  exact key 2217 0 τ (by omega) (fun j hj => (by omega)) (fun _ _ => rfl)
theorem p_image (h : Inv σ τ) (a : Int) : Same2 (Td_image a σ) (Mo_image a τ) := by
  have h0 := h
  obtain ⟨hR1, hP, hI, hRD⟩ := h
  obtain ⟨i1, i2, i3⟩ := hI
  unfold Td_image Mo_image
  by_cases ha : a = 0
  · rw [if_pos ha, if_pos ha, i1]
    rcases i2 with z | z
    · rw [if_pos z, if_pos z, b1_q, i00, z, zb_q0]
      exact ⟨_, _, _, rfl, rfl, h0⟩
    · rw [if_neg (by omega), if_neg (by omega), b1_q, if_neg (by decide)]
      have hW := i3 z
      obtain ⟨σ1, c1, c2, c3⟩ := woC (t := 1) (a := 31) (.inr ⟨rfl, rfl⟩) hW
      obtain ⟨τ1, m1, m2, m3⟩ := imM (τ := τ) (a1 := a) (x := 174) (y := 173) (.inl ⟨ha, rfl, rfl⟩)
      have ec : ∀ c, (c = 0 ∨ 31 ≤ c) → c ≠ 61 → su σ1 61 2 0 c = σ c := fun c p q => by rw [su_c q, c3 c (by omega)]
      have em : ∀ c, c ≠ 172 → c ≠ 173 → su (su τ1 172 4 0) 172 5 1 c = τ c := fun c p q => by rw [su_c p, su_c p, m3 c q]
      have em2 : ∀ j, j ≠ 4 → j ≠ 5 → su (su τ1 172 4 0) 172 5 1 172 j = τ 172 j := fun j p q => by rw [su_s, up_n q, su_s, up_n p, m3 172 (by decide)]
      have f9 : su σ1 61 2 0 0 9 = 1 := by rw [ec 0 (by omega) (by decide), i1]; exact z
      refine ⟨1, su σ1 61 2 0, su (su τ1 172 4 0) 172 5 1, ?_, ?_, ?_, ?_, ?_, ?_⟩
      · unfold Pa_forget
        rw [c1, b1_q, ll_q, b1_q, f9, zb_q1]
      · rw [m1]
        refine wl_end ?_
        show Mo_image_15_b a 2217 τ1 = _
        unfold Mo_image_15_b Mo_forgets
        rw [if_neg (by decide), if_pos ha, ll_q, b1_q, ll_q]
      · have e173 : su (su τ1 172 4 0) 172 5 1 173 = τ1 173 := by rw [su_c (by decide), su_c (by decide)]
        rw [e173]
        have := WR.agr (w' := τ1 173) c2 (fun j hj => m2 j hj)
        obtain ⟨w1, w2, w3, w4, w5⟩ := this
        exact ⟨TR.agr w1 w2.2.2.1 (fun k p q _ => su_c (by omega)) (fun _ _ _ => rfl), w2, w3, WS.agr w4 (fun _ _ _ => rfl) (fun _ _ _ => rfl) (fun k hk => su_c (by omega)) (by rw [su_c (by decide)]), by rw [su_c (by decide)]; exact w5⟩
      · refine PS.none (by rw [su_s, up_a]) (by rw [su_s, up_n (by decide), su_s, up_a]) ?_
        rw [su_s, up_n (by decide), c3 61 (by omega)]; exact hP.2.2.1
      · exact IM.agr ⟨i1, .inr z, i3⟩ (by rw [ec 0 (by omega) (by decide)]) (fun k p q => ec k (by omega) (by omega)) (by rw [su_s, up_a, z]) (em 174 (by decide) (by decide))
      · exact RD.agr hRD (by rw [ec 141 (by omega) (by decide)]) (by rw [ec 141 (by omega) (by decide)]) (by rw [ec 141 (by omega) (by decide)]) (ec 145 (by omega) (by decide)) (em2 16 (by decide) (by decide)) (em2 23 (by decide) (by decide)) (em2 25 (by decide) (by decide)) (em 180 (by decide) (by decide))
  · rw [if_neg ha, if_neg ha, b1_q, if_neg (by decide)]
    obtain ⟨σ1, c1, c2, c3⟩ := woC (t := 31) (a := 1) (.inl ⟨rfl, rfl⟩) hR1
    obtain ⟨τ1, m1, m2, m3⟩ := imM (τ := τ) (a1 := a) (x := 173) (y := 174) (.inr ⟨ha, rfl, rfl⟩)
    have ec : ∀ c, (c < 31 ∨ 61 ≤ c) → c ≠ 0 → su σ1 0 9 1 c = σ c := fun c p q => by rw [su_c q, c3 c (by omega)]
    have em : ∀ c, c ≠ 172 → c ≠ 174 → su τ1 172 5 1 c = τ c := fun c p q => by rw [su_c p, m3 c q]
    have em2 : ∀ j, j ≠ 5 → su τ1 172 5 1 172 j = τ 172 j := fun j q => by rw [su_s, up_n q, m3 172 (by decide)]
    have e173 := em 173 (by decide) (by decide)
    have hI' : IM (su σ1 0 9 1) (su τ1 172 5 1) := by
      refine ⟨by rw [su_s, up_a, su_s, up_a], by rw [su_s, up_a]; exact .inr rfl, fun _ => ?_⟩
      have e174 : su τ1 172 5 1 174 = τ1 174 := su_c (by decide)
      rw [e174]
      have := WR.agr (w' := τ1 174) c2 (fun j hj => m2 j hj)
      obtain ⟨w1, w2, w3, w4, w5⟩ := this
      exact ⟨TR.agr w1 w2.2.2.1 (fun k p q _ => su_c (by omega)) (fun _ _ _ => rfl), w2, w3, WS.agr w4 (fun _ _ _ => rfl) (fun _ _ _ => rfl) (fun k hk => su_c (by omega)) (by rw [su_c (by decide)]), by rw [su_c (by decide)]; exact w5⟩
    have hW1 : WR 1 (su σ1 0 9 1) (su τ1 172 5 1 173) := by
      rw [e173]
      obtain ⟨w1, w2, w3, w4, w5⟩ := hR1
      exact ⟨TR.agr w1 w2.2.2.1 (fun k p q _ => ec k (by omega) (by omega)) (fun _ _ _ => rfl), w2, w3, WS.agr w4 (fun _ _ _ => rfl) (fun _ _ _ => rfl) (fun k hk => ec k (by omega) (by omega)) (by rw [ec 1 (by omega) (by decide)]), by rw [ec _ (by omega) (by decide)]; exact w5⟩
    refine ⟨1, su σ1 0 9 1, su τ1 172 5 1, ?_, ?_, hW1, ?_, hI', ?_⟩
    · rw [c1, b1_q, ll_q, su_s, up_a, zb_q1]
    · rw [m1]
      refine wl_end ?_
      show Mo_image_15_b a 2217 τ1 = _
      unfold Mo_image_15_b
      rw [if_neg (by decide), if_neg ha, ll_q]
    · exact PS.agr hP (fun k p q => ec k (by omega) (by omega)) (em2 4 (by decide)) (em 175 (by decide) (by decide)) (by rw [e173]; exact Int.le_refl _) (fun j _ => by rw [e173])
    · exact RD.agr hRD (by rw [ec 141 (by omega) (by decide)]) (by rw [ec 141 (by omega) (by decide)]) (by rw [ec 141 (by omega) (by decide)]) (ec 145 (by omega) (by decide)) (em2 16 (by decide)) (em2 23 (by decide)) (em2 25 (by decide)) (em 180 (by decide) (by decide))
end Image
