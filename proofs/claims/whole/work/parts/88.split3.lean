/-! split: the best cut, and the call -/
def vC (L : Nat → Int) (g c : Nat) : Prop := c = 0 ∨ (1 ≤ c ∧ c ≤ g ∧ (c = g ∨ L c ≠ L (c - 1)) ∧ L (c - 1) ≤ 9998)
def dC (L : Nat → Int) (g r x : Nat) : Prop := x = 0 ∨ ∃ i, i < r ∧ L i ≤ 9998 ∧ isE L g (L i + 1) x
def nmF (L : Nat → Int) (c : Nat) : Int := if c = 0 then 1 else L (c - 1) + 1
section Split3
theorem okL_le {L : Nat → Int} {g : Nat} (hL : okL L g) {x y : Nat} (h : x ≤ y) (hy : y < g) : L x ≤ L y := by
  rcases Nat.lt_or_ge x y with z | z
  · exact hL.2 x y z hy
  · rw [show x = y by omega]; exact Int.le_refl _
theorem isE_run {L : Nat → Int} {g i b : Nat} (hL : okL L g) (hi : i < g) (h : isE L g (L i + 1) b) : i + 1 ≤ b ∧ L (b - 1) = L i := by
  have h1 : i + 1 ≤ b := by
    rcases Nat.lt_or_ge i b with z | z
    · omega
    · have h2 := h.2.2 (by omega)
      have h3 := okL_le hL z hi
      omega
  have h2 := h.2.1 (b - 1) (by omega)
  have h3 := okL_le hL (x := i) (y := b - 1) (by omega) (by have := h.1; omega)
  exact ⟨h1, by omega⟩
theorem vC_E {L : Nat → Int} {g c : Nat} (hL : okL L g) (h : vC L g c) : isE L g (nmF L c) c ∧ c ≤ g := by
  unfold nmF
  rcases h with h | ⟨h1, h2, h3, h4⟩
  · subst h
    rw [if_pos rfl]
    exact ⟨⟨by omega, fun j hj => (by omega), fun z => (hL.1 0 z).1⟩, by omega⟩
  · rw [if_neg (by omega)]
    refine ⟨⟨h2, fun j hj => ?_, fun z => ?_⟩, h2⟩
    · have := okL_le hL (x := j) (y := c - 1) (by omega) (by omega)
      omega
    · have := okL_le hL (x := c - 1) (y := c) (by omega) z
      rcases h3 with h3 | h3 <;> omega
theorem dC_vC {L : Nat → Int} {g : Nat} (hL : okL L g) (x : Nat) : (vC L g x ∧ x < g + 1) ↔ dC L g g x := by
  constructor
  · intro h
    have hE := vC_E hL h.1
    rcases h.1 with h1 | ⟨h1, h2, h3, h4⟩
    · exact .inl h1
    · refine .inr ⟨x - 1, by omega, h4, ?_⟩
      have := hE.1
      unfold nmF at this
      rw [if_neg (by omega)] at this
      exact this
  · intro h
    rcases h with h | ⟨i, h1, h2, h3⟩
    · exact ⟨.inl h, by omega⟩
    · have r := isE_run hL h1 h3
      have b := h3.1
      refine ⟨.inr ⟨by omega, b, ?_, by omega⟩, by omega⟩
      rcases Nat.lt_or_ge x g with z | z
      · have := h3.2.2 z; right; omega
      · left; omega
/-- the class: the best cut -/
theorem bcC {σ : Sg} {L : Nat → Int} {g : Nat} (hg : g ≤ 60) (hL : okL L g) (hσ : ∀ j, j < g → σ 169 j = L j) (h1 : σ 166 1 = g) : ∀ (m r c : Nat), r + m = g → isB (dC L g r) (coF L g) c → ∃ c', isB (dC L g g) (coF L g) c' ∧ Gl_bestCut_10_w σ (nmF L c) (coF L g c) (r : Int) = some (nmF L c')
  | 0, r, c, hr, hB => by
    have e : r = g := by omega
    subst e
    refine ⟨c, hB, wl_end ?_⟩
    show Gl_bestCut_10_b σ (nmF L c) (coF L r c) (r : Int) = _
    unfold Gl_bestCut_10_b
    rw [h1, if_neg (by omega)]
  | m + 1, r, c, hr, hB => by
    have q := hL.1 r (by omega)
    by_cases hz : L r ≤ 9998
    · obtain ⟨b, hE, hcost⟩ := coC hg hL hσ h1 (L r + 1)
      have rn := isE_run hL (by omega) hE
      have hB' : isB (dC L g (r + 1)) (coF L g) (if coF L g b < coF L g c then b else c) := isB_j hB (fun x hx => by
        rcases hx with hx | ⟨i, i1, i2, i3⟩
        · omega
        · rcases Nat.lt_or_ge b x with z | z
          · have z1 := i3.2.1 b z
            have z2 := hE.2.2 (by have := i3.1; omega)
            have z3 := okL_le hL (x := i) (y := r) (by omega) (by omega)
            omega
          · exact z) (fun x => ⟨fun z => by
        rcases z with z | ⟨i, i1, i2, i3⟩
        · exact .inl (.inl z)
        · by_cases e : i = r
          · rw [e] at i3; exact .inr (isE_u i3 hE)
          · exact .inl (.inr ⟨i, by omega, i2, i3⟩), fun z => by
        rcases z with (z | ⟨i, i1, i2, i3⟩) | z
        · exact .inl z
        · exact .inr ⟨i, by omega, i2, i3⟩
        · rw [z]; exact .inr ⟨r, by omega, hz, hE⟩⟩)
      obtain ⟨c', k1, k2⟩ := bcC hg hL hσ h1 m (r + 1) _ (by omega) hB'
      refine ⟨c', k1, ?_⟩
      rw [← k2]
      refine wl_go ?_
      show Gl_bestCut_10_b σ (nmF L c) (coF L g c) (r : Int) = _
      unfold Gl_bestCut_10_b
      rw [h1, if_pos (by omega), ix_q (by omega) (by omega), Int.toNat_natCast, hσ r (by omega), wr_q (n := L r + 1) (by omega) (by omega), ll_q, if_neg (by omega), if_neg (by omega), hcost, b1_q, wr_q (n := (r : Int) + 1) (by omega) (by omega)]
      by_cases z : coF L g b < coF L g c
      · have e : nmF L b = L r + 1 := by unfold nmF; rw [if_neg (by omega), rn.2]
        rw [if_pos z, if_pos z, b1_q, ll_q, e]
        rfl
      · rw [if_neg z, if_neg z, ll_q]
        rfl
    · obtain ⟨c', k1, k2⟩ := bcC hg hL hσ h1 m (r + 1) c (by omega) (isB_c hB (fun x => ⟨fun z => by
        rcases z with z | ⟨i, i1, i2, i3⟩
        · exact .inl z
        · by_cases e : i = r
          · rw [e] at i2; omega
          · exact .inr ⟨i, by omega, i2, i3⟩, fun z => by
        rcases z with z | ⟨i, i1, i2, i3⟩
        · exact .inl z
        · exact .inr ⟨i, by omega, i2, i3⟩⟩))
      refine ⟨c', k1, ?_⟩
      rw [← k2]
      refine wl_go ?_
      show Gl_bestCut_10_b σ (nmF L c) (coF L g c) (r : Int) = _
      unfold Gl_bestCut_10_b
      rw [h1, if_pos (by omega), ix_q (by omega) (by omega), Int.toNat_natCast, hσ r (by omega), wr_q (n := L r + 1) (by omega) (by omega), ll_q, if_neg (by omega), if_pos (by omega), wr_q (n := (r : Int) + 1) (by omega) (by omega), ll_q]
      rfl
/-- the reference: one cut after the other -/
theorem bcM {τ : Sg} {g : Nat} (hg : g ≤ 60) (hL : okL (τ 186) g) (a : Int) : ∀ (m k c : Nat), k + m = g + 1 → 1 ≤ k → isB (fun x => vC (τ 186) g x ∧ x < k) (coF (τ 186) g) c → ∃ c', isB (fun x => vC (τ 186) g x ∧ x < g + 1) (coF (τ 186) g) c' ∧ Mo_split_33_w (g : Int) τ a (c : Int) (coF (τ 186) g c) (k : Int) = Mo_split_33_w (g : Int) τ a (c' : Int) (coF (τ 186) g c') ((g : Int) + 1)
  | 0, k, c, hk, hk1, hB => by
    have e : k = g + 1 := by omega
    subst e
    exact ⟨c, hB, rfl⟩
  | m + 1, k, c, hk, hk1, hB => by
    have stay : ¬ vC (τ 186) g k → Mo_split_33_b (g : Int) τ a (c : Int) (coF (τ 186) g c) (k : Int) = some (.inl ((c : Int), coF (τ 186) g c, (k : Int) + 1)) → ∃ c', isB (fun x => vC (τ 186) g x ∧ x < g + 1) (coF (τ 186) g) c' ∧ Mo_split_33_w (g : Int) τ a (c : Int) (coF (τ 186) g c) (k : Int) = Mo_split_33_w (g : Int) τ a (c' : Int) (coF (τ 186) g c') ((g : Int) + 1) := fun hv hb => by
      obtain ⟨c', k1, k2⟩ := bcM hg hL a m (k + 1) c (by omega) (by omega) (isB_c hB (fun x => ⟨fun z => ⟨z.1, by
        have := z.2
        by_cases e : x = k
        · rw [e] at z; exact absurd z.1 hv
        · omega⟩, fun z => ⟨z.1, by have := z.2; omega⟩⟩))
      refine ⟨c', k1, ?_⟩
      rw [← k2]
      exact wl_go hb
    by_cases s1 : k < g ∧ τ 186 k = τ 186 (k - 1)
    · refine stay (fun z => ?_) ?_
      · rcases z with z | ⟨z1, z2, z3, z4⟩
        · omega
        · rcases z3 with z3 | z3
          · omega
          · exact z3 s1.2
      · unfold Mo_split_33_b
        rw [if_neg (by omega), if_pos (by omega), if_pos (by omega), ix_q (by omega) (by omega), ix_q (by omega) (by omega), Int.toNat_natCast, show ((k : Int) - 1).toNat = k - 1 by omega, if_pos s1.2, b1_q, i00, wr_q (by omega) (by omega), ll_q]
    · have t39 : (if 0 < (k : Int) then if (k : Int) < (g : Int) then ix (k : Int) 60 (ix ((k : Int) - 1) 60 (if τ 186 (k : Int).toNat = τ 186 ((k : Int) - 1).toNat then some 0 else some 1)) else some 1 else some 1) = some (1 : Int) := by
        rw [if_pos (by omega)]
        by_cases z : k < g
        · rw [if_pos (by omega), ix_q (by omega) (by omega), ix_q (by omega) (by omega), Int.toNat_natCast, show ((k : Int) - 1).toNat = k - 1 by omega, if_neg (fun y => s1 ⟨z, y⟩)]
        · rw [if_neg (by omega)]
      by_cases s2 : τ 186 (k - 1) < 9999
      · have hv : vC (τ 186) g k := .inr ⟨hk1, by omega, by
          by_cases z : k < g
          · exact .inr (fun y => s1 ⟨z, y⟩)
          · left; omega, by omega⟩
        have hB' := isB_j hB (y := k) (D' := fun x => vC (τ 186) g x ∧ x < k + 1) (fun x hx => by have := hx.2; omega) (fun x => ⟨fun z => by
          by_cases e : x = k
          · exact .inr e
          · exact .inl ⟨z.1, by have := z.2; omega⟩, fun z => by
          rcases z with z | z
          · exact ⟨z.1, by have := z.2; omega⟩
          · rw [z]; exact ⟨hv, by omega⟩⟩)
        obtain ⟨c', k1, k2⟩ := bcM hg hL a m (k + 1) _ (by omega) (by omega) hB'
        refine ⟨c', k1, ?_⟩
        rw [← k2]
        refine wl_go ?_
        show Mo_split_33_b (g : Int) τ a (c : Int) (coF (τ 186) g c) (k : Int) = _
        have m1 := spM hg hL (a := 0) (b := k) (by omega) (by omega)
        have m2 := spM hg hL (a := k) (b := g) (by omega) (Nat.le_refl _)
        have i1 := coF_in hg hL (c := k) (by omega)
        have e1 : spF (τ 186) 0 k + spF (τ 186) k g = coF (τ 186) g k := rfl
        unfold Mo_split_33_b
        rw [if_neg (by omega), t39, b1_q, if_neg (by decide), if_pos (by omega), ix_q (by omega) (by omega), show ((k : Int) - 1).toNat = k - 1 by omega, if_pos s2, b1_q, if_neg (by decide), show (0 : Int) = ((0 : Nat) : Int) from rfl, m1, m2, b1_q, b1_q, e1, wr_q (by omega) (by omega), wr_q (by omega) (by omega), ll_q]
        by_cases z : coF (τ 186) g k < coF (τ 186) g c
        · rw [if_pos z, if_pos z, ll_q]
          rfl
        · rw [if_neg z, if_neg z, ll_q]
          rfl
      · refine stay (fun z => ?_) ?_
        · rcases z with z | ⟨z1, z2, z3, z4⟩ <;> omega
        · unfold Mo_split_33_b
          rw [if_neg (by omega), t39, b1_q, if_neg (by decide), if_pos (by omega), ix_q (by omega) (by omega), show ((k : Int) - 1).toNat = k - 1 by omega, if_neg s2, b1_q, i00, wr_q (by omega) (by omega), ll_q]
def zrF (O : Nat → Int) (j : Nat) : Int := if O j = 0 then 1 else 0
/-- the reference: those of the first one -/
theorem zrM {τ : Sg} {c : Nat} (hc : c ≤ 60) (a : Int) : ∀ (m k : Nat) (acc : Int), k + m = c → (0 ≤ acc ∧ acc ≤ k) → Mo_split_138_w (c : Int) τ a acc (k : Int) = some (.inr ((if a = 1 then acc + smf (zrF (τ 187)) k m else nmF (τ 186) c), τ)) ∨ ¬ (wr (τ 186 (c - 1) + 1) = τ 186 (c - 1) + 1)
  | 0, k, acc, hk, ha => by
    by_cases hw : wr (τ 186 (c - 1) + 1) = τ 186 (c - 1) + 1
    · left
      refine wl_end ?_
      show Mo_split_138_b (c : Int) τ a acc (k : Int) = _
      unfold Mo_split_138_b
      rw [if_neg (by omega)]
      by_cases z : a = 1
      · rw [if_pos z, if_pos z]
        unfold smf
        rw [Int.add_zero]
      · rw [if_neg z, if_neg z]
        unfold nmF
        by_cases z0 : c = 0
        · rw [if_pos (by omega), if_pos z0]
        · rw [if_neg (by omega), if_neg z0, ix_q (by omega) (by omega), show ((c : Int) - 1).toNat = c - 1 by omega, hw]
    · exact .inr hw
  | m + 1, k, acc, hk, ha => by
    have zz : 0 ≤ zrF (τ 187) k ∧ zrF (τ 187) k ≤ 1 := by unfold zrF; split <;> omega
    rcases zrM hc a m (k + 1) (acc + zrF (τ 187) k) (by omega) (by omega) with h | h
    · left
      have e : acc + smf (zrF (τ 187)) k (m + 1) = acc + zrF (τ 187) k + smf (zrF (τ 187)) (k + 1) m := by rw [Int.add_assoc]; rfl
      rw [e, ← h]
      refine wl_go ?_
      show Mo_split_138_b (c : Int) τ a acc (k : Int) = _
      unfold Mo_split_138_b
      rw [if_pos (by omega), ix_q (by omega) (by omega), Int.toNat_natCast, wr_q (n := (k : Int) + 1) (by omega) (by omega)]
      unfold zrF
      by_cases z : τ 187 k = 0
      · rw [if_pos z, if_pos z, wr_q (by omega) (by omega), ll_q, ll_q]
        rfl
      · rw [if_neg z, if_neg z, wr_q (by omega) (by omega), ll_q, ll_q]
        rfl
    · exact .inr h
def zcF (L O : Nat → Int) (num : Int) (j : Nat) : Int := if L j < num ∧ O j = 0 then 1 else 0
/-- the class: those of the first one -/
theorem zrC {σ : Sg} {g : Nat} (hg : g ≤ 60) (h1 : σ 166 1 = g) (num : Int) : ∀ (m k : Nat) (acc : Int), k + m = g → (0 ≤ acc ∧ acc ≤ k) → Gl_ofFirstBelow_4_w σ num acc (k : Int) = some (acc + smf (zcF (σ 169) (σ 170) num) k m)
  | 0, k, acc, hk, ha => by
    refine wl_end ?_
    show Gl_ofFirstBelow_4_b σ num acc (k : Int) = _
    unfold Gl_ofFirstBelow_4_b smf
    rw [h1, if_neg (by omega), Int.add_zero]
  | m + 1, k, acc, hk, ha => by
    have zz : 0 ≤ zcF (σ 169) (σ 170) num k ∧ zcF (σ 169) (σ 170) num k ≤ 1 := by unfold zcF; split <;> omega
    have h := zrC hg h1 num m (k + 1) (acc + zcF (σ 169) (σ 170) num k) (by omega) (by omega)
    have e : acc + smf (zcF (σ 169) (σ 170) num) k (m + 1) = acc + zcF (σ 169) (σ 170) num k + smf (zcF (σ 169) (σ 170) num) (k + 1) m := by rw [Int.add_assoc]; rfl
    rw [e, ← h]
    refine wl_go ?_
    show Gl_ofFirstBelow_4_b σ num acc (k : Int) = _
    unfold Gl_ofFirstBelow_4_b
    rw [h1, if_pos (by omega), ix_q (by omega) (by omega), Int.toNat_natCast, wr_q (n := (k : Int) + 1) (by omega) (by omega)]
    unfold zcF
    by_cases z1 : σ 169 k < num
    · by_cases z2 : σ 170 k = 0
      · rw [if_pos z1, ix_q (by omega) (by omega), if_pos z2, if_pos ⟨z1, z2⟩, wr_q (by omega) (by omega), ll_q, ll_q]
        rfl
      · rw [if_pos z1, ix_q (by omega) (by omega), if_neg z2, if_neg (fun z => z2 z.2), wr_q (by omega) (by omega), ll_q, ll_q]
        rfl
    · rw [if_neg z1, if_neg (fun z => z1 z.1), wr_q (by omega) (by omega), ll_q, ll_q]
      rfl
theorem smf_cut {f : Nat → Int} {c : Nat} : ∀ m, (∀ j, c ≤ j → j < c + m → f j = 0) → smf f 0 (c + m) = smf f 0 c
  | 0, _ => rfl
  | m + 1, h => by
    rw [show c + (m + 1) = (c + m) + 1 by omega, smf_back, smf_cut m (fun j h1 h2 => h j h1 (by omega)), h (0 + (c + m)) (by omega) (by omega), Int.add_zero]
theorem p_split {σ τ : Sg} (h : Inv σ τ) (a : Int) : Same2 (Td_split a σ) (Mo_split a τ) := by
  unfold Td_split Mo_split
  rw [within_q, isIn_q, b1_q, b1_q]
  by_cases hc : 0 ≤ a ∧ a ≤ 1
  · rw [if_pos hc, i10, i10]
    obtain ⟨g, σ', τ', k1, k2, k3, k4, k5, k6⟩ := spG h
    rw [k1, k2, b1_q, b2_q, k4]
    by_cases g2 : g < 2
    · rw [if_pos (by omega), if_pos (by omega)]; exact ⟨_, _, _, rfl, rfl, k6⟩
    · rw [if_neg (by omega), if_neg (by omega)]
      have hL : okL (τ' 186) g := ⟨fun j hj => (k5.1 j hj).2.2, k5.2⟩
      have hσ : ∀ j, j < g → σ' 169 j = τ' 186 j := fun j hj => (k5.1 j hj).1
      -- the class
      obtain ⟨b, hE, hcost⟩ := coC k3 hL hσ k4 1
      have hE0 : isE (τ' 186) g 1 0 := ⟨by omega, fun j hj => (by omega), fun z => (hL.1 0 z).1⟩
      have b0 : b = 0 := isE_u hE hE0
      subst b0
      obtain ⟨c, c1, c2⟩ := bcC k3 hL hσ k4 g 0 0 (by omega) (show isB (dC (τ' 186) g 0) (coF (τ' 186) g) 0 from ⟨.inl rfl, fun x hx => by
        rcases hx with hx | ⟨i, i1, -⟩
        · rw [hx]; exact Int.le_refl _
        · omega, fun x _ hl => (by omega)⟩)
      have cls : Gl_bestCut σ' = some (nmF (τ' 186) c) := by
        unfold Gl_bestCut
        rw [hcost, b1_q]; exact c2
      -- the reference
      have hB1 : isB (fun x => vC (τ' 186) g x ∧ x < 1) (coF (τ' 186) g) 0 := ⟨⟨.inl rfl, by omega⟩, fun x hx => by
        rw [show x = 0 by have := hx.2; omega]; exact Int.le_refl _, fun x _ hl => (by omega)⟩
      obtain ⟨c', d1, d2⟩ := bcM k3 hL a g 1 0 (by omega) (by omega) hB1
      have e : c' = c := isB_u d1 (isB_c c1 (fun x => dC_vC hL x))
      subst e
      have hv := ((dC_vC hL c').mpr c1.1).1
      have hvE := vC_E hL hv
      have i0 := coF_in k3 hL (c := 0) (by omega)
      have first : Mo_split_33_w (g : Int) τ' a 0 100000000 0 = Mo_split_33_w (g : Int) τ' a ((0 : Nat) : Int) (coF (τ' 186) g 0) ((1 : Nat) : Int) := by
        refine wl_go ?_
        show Mo_split_33_b (g : Int) τ' a 0 100000000 0 = _
        have m1 := spM k3 hL (a := 0) (b := 0) (by omega) (by omega)
        have m2 := spM k3 hL (a := 0) (b := g) (by omega) (Nat.le_refl _)
        have e1 : spF (τ' 186) 0 0 + spF (τ' 186) 0 g = coF (τ' 186) g 0 := rfl
        have m1' : Mo_farFromMiddle 0 0 τ' = some (spF (τ' 186) 0 0) := m1
        have m2' : Mo_farFromMiddle 0 (g : Int) τ' = some (spF (τ' 186) 0 g) := m2
        unfold Mo_split_33_b
        rw [if_neg (by omega), if_neg (by omega), b1_q, if_neg (by decide), if_neg (by omega), b1_q, if_neg (by decide), m1', m2', b1_q, b1_q, e1, wr_q (by omega) (by omega), wr_q (by omega) (by omega), ll_q, if_pos (by omega), ll_q]
        rfl
      have hc60 : c' ≤ 60 := by have := hvE.2; omega
      have last : Mo_split_33_w (g : Int) τ' a (c' : Int) (coF (τ' 186) g c') ((g : Int) + 1) = some ((if a = 1 then smf (zrF (τ' 187)) 0 c' else nmF (τ' 186) c'), τ') := by
        refine wl_end ?_
        show Mo_split_33_b (g : Int) τ' a (c' : Int) (coF (τ' 186) g c') ((g : Int) + 1) = _
        unfold Mo_split_33_b
        rw [if_pos (by omega)]
        by_cases z0 : c' = 0
        · subst z0
          refine wl_end ?_
          show Mo_split_138_b ((0 : Nat) : Int) τ' a 0 0 = _
          unfold Mo_split_138_b nmF smf
          rw [if_neg (by omega)]
          by_cases z : a = 1
          · rw [if_pos z, if_pos z]
          · rw [if_neg z, if_neg z, if_pos (by omega), if_pos rfl]
        · rcases zrM hc60 a c' 0 0 (by omega) (by omega) (τ := τ') with z | z
          · rw [Int.zero_add] at z
            exact z
          · have q := hL.1 (c' - 1) (by have := hvE.2; omega)
            exact absurd (wr_q (by omega) (by omega)) z
      rw [cls, b1_q, first, d2, last]
      by_cases a0 : a = 0
      · rw [if_pos a0, if_neg (by omega)]
        exact ⟨_, _, _, rfl, rfl, k6⟩
      · rw [if_neg a0, if_pos (by omega)]
        unfold Gl_ofFirstBelow
        have zc := zrC (σ := σ') k3 k4 (nmF (τ' 186) c') g 0 0 (by omega) (by omega)
        rw [show Gl_ofFirstBelow_4_w σ' (nmF (τ' 186) c') 0 0 = _ from zc, b1_q, Int.zero_add]
        have ez : smf (zcF (σ' 169) (σ' 170) (nmF (τ' 186) c')) 0 g = smf (zrF (τ' 187)) 0 c' := by
          have hcg := hvE.2
          rw [show g = c' + (g - c') by omega, smf_cut]
          · refine smf_congr _ _ (fun j h1 h2 => ?_)
            have q := k5.1 j (by omega)
            unfold zcF zrF
            rw [q.1, q.2.1]
            have := hvE.1.2.1 j (by omega)
            by_cases z : τ' 187 j = 0
            · rw [if_pos ⟨this, z⟩, if_pos z]
            · rw [if_neg (fun y => z y.2), if_neg z]
          · intro j h1 h2
            have q := k5.1 j (by omega)
            unfold zcF
            rw [q.1, if_neg]
            intro y
            have y1 := hvE.1.2.2 (by omega)
            have y2 := okL_le hL (x := c') (y := j) h1 (by omega)
            omega
        rw [ez]
        exact ⟨_, _, _, rfl, rfl, k6⟩
  · rw [if_neg hc, i00, i00]; exact ⟨_, _, _, rfl, rfl, h⟩
end Split3
