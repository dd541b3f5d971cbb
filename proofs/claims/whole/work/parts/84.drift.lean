/-! drift: the greatest of some, told by what it is -/
def isMx (P : Nat → Prop) (f : Nat → Int) (m : Int) : Prop := 0 ≤ m ∧ (∀ j, P j → f j ≤ m) ∧ (m = 0 ∨ ∃ j, P j ∧ f j = m)
theorem isMx_u {P : Nat → Prop} {f : Nat → Int} {m m' : Int} (h : isMx P f m) (h' : isMx P f m') : m = m' := by
  obtain ⟨a1, a2, a3⟩ := h
  obtain ⟨b1, b2, b3⟩ := h'
  rcases a3 with a3 | ⟨j, j1, j2⟩
  · rcases b3 with b3 | ⟨x, x1, x2⟩
    · omega
    · have := a2 x x1; omega
  · have := b2 j j1
    rcases b3 with b3 | ⟨x, x1, x2⟩
    · omega
    · have := a2 x x1; omega
theorem isMx_c {P Q : Nat → Prop} {f g : Nat → Int} {m : Int} (h : isMx P f m) (hp : ∀ j, P j ↔ Q j) (hf : ∀ j, Q j → g j = f j) : isMx Q g m :=
  ⟨h.1, fun j hj => by rw [hf j hj]; exact h.2.1 j ((hp j).mpr hj), h.2.2.imp id (fun ⟨j, j1, j2⟩ => ⟨j, (hp j).mp j1, by rw [hf j ((hp j).mp j1)]; exact j2⟩)⟩
theorem isMx_j {P Q R : Nat → Prop} {f : Nat → Int} {m m' : Int} (h : isMx P f m) (h' : isMx Q f m') (hr : ∀ j, R j ↔ P j ∨ Q j) : isMx R f (mx2 m m') := by
  have e := mx2_q m m'
  refine ⟨by have := h.1; omega, fun j hj => ?_, ?_⟩
  · rcases (hr j).mp hj with z | z
    · have := h.2.1 j z; omega
    · have := h'.2.1 j z; omega
  · rcases e.2.2 with z | z
    · rw [z]; exact h.2.2.imp id (fun ⟨j, j1, j2⟩ => ⟨j, (hr j).mpr (.inl j1), j2⟩)
    · rw [z]; exact h'.2.2.imp id (fun ⟨j, j1, j2⟩ => ⟨j, (hr j).mpr (.inr j1), j2⟩)
theorem isMx_0 {P : Nat → Prop} {f : Nat → Int} (h : ∀ j, ¬ P j) : isMx P f 0 := ⟨Int.le_refl _, fun j hj => absurd hj (h j), .inl rfl⟩
theorem isMx_1 {P : Nat → Prop} {f : Nat → Int} {a : Nat} (hP : ∀ j, P j ↔ j = a) (h : 0 ≤ f a) : isMx P f (f a) := ⟨h, fun j hj => by rw [(hP j).mp hj]; exact Int.le_refl _, .inr ⟨a, (hP a).mpr rfl, rfl⟩⟩
def sdF (w : Nat → Int) (one : Int) (j : Nat) : Prop := mW w j 0 = one ∧ mW w j 7 = 0
def drH (one : Int) (i : Nat) (τ : Sg) : Prop := ∀ x, x < i → (sdF (τ 173) one x → 1 ≤ τ 185 x ∧ τ 185 x ≤ x + 1) ∧ (¬ sdF (τ 173) one x → τ 185 x = 0)
def drP (w : Nat → Int) (one : Int) (i j x : Nat) : Prop := x < j ∧ sdF w one x ∧ mW w i 4 < mW w x 4
section Drift
/-- the reference: the messages ahead, one after the other -/
theorem drI (one : Int) {i : Nat} (hi : i < 60) (L a s : Int) : ∀ (m j : Nat) (τ : Sg), j + m = i → drH one i τ → (1 ≤ τ 185 i ∧ τ 185 i ≤ j + 1) → isMx (drP (τ 173) one i j) (τ 185) (τ 185 i - 1) → ∃ τ', Mo_drift_83_w (i : Int) L a s (j : Int) τ = Mo_drift_83_w (i : Int) L a s (i : Int) τ' ∧ (∀ c, c ≠ 185 → τ' c = τ c) ∧ (∀ x, x ≠ i → τ' 185 x = τ 185 x) ∧ (1 ≤ τ' 185 i ∧ τ' 185 i ≤ i + 1) ∧ isMx (drP (τ 173) one i i) (τ 185) (τ' 185 i - 1)
  | 0, j, τ, hj, hH, hb, hm => ⟨τ, by rw [show j = i by omega], fun _ _ => rfl, fun _ _ => rfl, by omega, by rw [show j = i by omega] at hm; exact hm⟩
  | m + 1, j, τ, hj, hH, hb, hm => by
    have hx := hH j (by omega)
    have o1 := of0_q (τ := τ) (i := j) (f := 4) (by omega) (by decide)
    have o2 := of0_q (τ := τ) (i := i) (f := 4) (by omega) (by decide)
    have stay : Mo_drift_83_b (i : Int) L a s (j : Int) τ = some (.inl ((j : Int) + 1, τ)) → ¬ drP (τ 173) one i (j + 1) j → ∃ τ', Mo_drift_83_w (i : Int) L a s (j : Int) τ = Mo_drift_83_w (i : Int) L a s (i : Int) τ' ∧ (∀ c, c ≠ 185 → τ' c = τ c) ∧ (∀ x, x ≠ i → τ' 185 x = τ 185 x) ∧ (1 ≤ τ' 185 i ∧ τ' 185 i ≤ i + 1) ∧ isMx (drP (τ 173) one i i) (τ 185) (τ' 185 i - 1) := fun hb1 hn => by
      obtain ⟨τ', g1, g2⟩ := drI one hi L a s m (j + 1) τ (by omega) hH (by omega) (isMx_c hm (fun x => ⟨fun z => ⟨by have := z.1; omega, z.2⟩, fun z => ⟨by
        have := z.1
        by_cases e : x = j
        · rw [e] at z; exact absurd z hn
        · omega, z.2⟩⟩) (fun _ _ => rfl))
      refine ⟨τ', ?_, g2⟩
      rw [← g1, show ((j + 1 : Nat) : Int) = (j : Int) + 1 by omega]
      exact wl_go hb1
    by_cases hs : sdF (τ 173) one j
    · have hu := hx.1 hs
      by_cases hk : mW (τ 173) i 4 < mW (τ 173) j 4
      · have e := mx2_q (τ 185 i) (τ 185 j + 1)
        have hb1 : Mo_drift_83_b (i : Int) L a s (j : Int) τ = some (.inl ((j : Int) + 1, su τ 185 i (mx2 (τ 185 i) (τ 185 j + 1)))) := by
          unfold Mo_drift_83_b
          rw [if_pos (by omega), ix_q (by omega) (by omega), Int.toNat_natCast, if_pos (by omega), show (4 : Int) = ((4 : Nat) : Int) from rfl, o1, o2, b1_q, b1_q, if_pos hk, ix_q (by omega) (by omega), ix_q (by omega) (by omega), Int.toNat_natCast, wr_q (by omega) (by omega), grt_q, b1_q, ix_q (by omega) (by omega), ll_q, wr_q (by omega) (by omega), ll_q]
        have hmx : mx2 (τ 185 i - 1) (τ 185 j) = mx2 (τ 185 i) (τ 185 j + 1) - 1 := by
          have := mx2_q (τ 185 i - 1) (τ 185 j); omega
        have hj1 : isMx (drP (τ 173) one i (j + 1)) (τ 185) (mx2 (τ 185 i) (τ 185 j + 1) - 1) := by
          rw [← hmx]
          exact isMx_j hm (isMx_1 (P := fun x => x = j) (fun _ => Iff.rfl) (by omega)) (fun x => ⟨fun z => by
            by_cases e : x = j
            · exact .inr e
            · exact .inl ⟨by have := z.1; omega, z.2⟩, fun z => by
            rcases z with z | z
            · exact ⟨by have := z.1; omega, z.2⟩
            · rw [z]; exact ⟨by omega, hs, hk⟩⟩)
        obtain ⟨τ', g1, g2, g3, g4, g5⟩ := drI one hi L a s m (j + 1) (su τ 185 i (mx2 (τ 185 i) (τ 185 j + 1))) (by omega) (fun x hx' => by
          rw [su_c (by decide), su_s, up_n (by omega)]; exact hH x hx') (by rw [su_s, up_a]; omega) (by
          rw [su_c (by decide), su_s, up_a]
          exact isMx_c hj1 (fun _ => Iff.rfl) (fun x hx' => up_n (by have := hx'.1; omega)))
        rw [su_c (by decide), su_s] at g5
        refine ⟨τ', ?_, fun c hc => by rw [g2 c hc, su_c hc], fun x hx' => by rw [g3 x hx', su_s, up_n hx'], g4, isMx_c g5 (fun _ => Iff.rfl) (fun x hx' => (up_n (by have := hx'.1; omega)).symm)⟩
        rw [← g1, show ((j + 1 : Nat) : Int) = (j : Int) + 1 by omega]
        exact wl_go hb1
      · refine stay ?_ (fun z => hk z.2.2)
        unfold Mo_drift_83_b
        rw [if_pos (by omega), ix_q (by omega) (by omega), Int.toNat_natCast, if_pos (by omega), show (4 : Int) = ((4 : Nat) : Int) from rfl, o1, o2, b1_q, b1_q, if_neg hk, wr_q (by omega) (by omega), ll_q]
    · refine stay ?_ (fun z => hs z.2.1)
      unfold Mo_drift_83_b
      rw [if_pos (by omega), ix_q (by omega) (by omega), Int.toNat_natCast, hx.2 hs, if_neg (by omega), wr_q (by omega) (by omega), ll_q]
def cpF (x y : Int) : Int := if y < x then 1 else if x < y then -1 else 0
theorem cpF_in (x y : Int) : -1 ≤ cpF x y ∧ cpF x y ≤ 1 := by unfold cpF; split <;> (try split) <;> omega
theorem cpF_C (x y : Int) : Ji_compare x y = some (cpF x y) := by
  unfold Ji_compare cpF
  by_cases h : x < y
  · rw [if_pos h, if_neg (by omega), if_pos h]
  · rw [if_neg h]
    by_cases e : x = y
    · rw [if_pos e, if_neg (by omega), if_neg (by omega)]
    · rw [if_neg e, if_pos (by omega)]
def mrF (w : Nat → Int) (a : Int) (i : Nat) : Int := if a = -1 then 0 else cpF (mW w i 4) (mW w a.toNat 4)
theorem mrF_in (w : Nat → Int) (a : Int) (i : Nat) : -1 ≤ mrF w a i ∧ mrF w a i ≤ 1 := by
  unfold mrF; split
  · omega
  · exact cpF_in _ _
/-- the reference: one message -/
theorem drM {one what : Int} {n i : Nat} {τ : Sg} (hW : WF (τ 173)) (hn : τ 173 3 = n) (hi : i < n) (hH : drH one i τ) (L s a : Int) (hs : -100 ≤ s ∧ s ≤ 100) (ha : a = -1 ∨ ∃ x : Nat, a = x ∧ x < n) : ∃ τ', (∀ c, c ≠ 185 → τ' c = τ c) ∧ (∀ x, x ≠ i → τ' 185 x = τ 185 x) ∧
    ((sdF (τ 173) one i ∧ Mo_drift_30_b one what L s a (i : Int) τ = some (.inl (mx2 L (τ' 185 i), s + mrF (τ 173) a i, (i : Int), (i : Int) + 1, τ')) ∧ (1 ≤ τ' 185 i ∧ τ' 185 i ≤ i + 1) ∧ isMx (drP (τ 173) one i i) (τ 185) (τ' 185 i - 1)) ∨
     (¬ sdF (τ 173) one i ∧ Mo_drift_30_b one what L s a (i : Int) τ = some (.inl (L, s, a, (i : Int) + 1, τ')) ∧ τ' 185 i = 0)) := by
  have h60 := hW.2.2.1
  have hM := hW.2.2.2.2 i (by omega)
  have f0 : su τ 185 i 0 173 = τ 173 := su_c (by decide)
  have o0 := of0_q (τ := su τ 185 i 0) (i := i) (f := 0) (by omega) (by decide)
  have o7 := isBack_q (τ := su τ 185 i 0) (i := i) (by omega) (by rw [f0]; exact hM.2.2.2.2.2.2.2.1)
  rw [f0] at o0 o7
  by_cases h0 : mW (τ 173) i 0 = one
  · by_cases h7 : mW (τ 173) i 7 = 0
    · have e2 : su (su τ 185 i 0) 185 i 1 185 i = 1 := by rw [su_s, up_a]
      obtain ⟨τ', g1, g2, g3, g4, g5⟩ := drI one (i := i) (by omega) L a s i 0 (su (su τ 185 i 0) 185 i 1) (by omega) (fun x hx => by
        rw [su_c (by decide), su_c (by decide), su_s, up_n (by omega), su_s, up_n (by omega)]; exact hH x hx) (by rw [e2]; omega) (by
        rw [e2]; exact isMx_0 (fun x hx => by have := hx.1; omega))
      rw [su_c (by decide), su_c (by decide), su_s, su_s] at g5
      have w' : τ' 173 = τ 173 := by rw [g2 _ (by decide), su_c (by decide), su_c (by decide)]
      refine ⟨τ', fun c hc => by rw [g2 c hc, su_c hc, su_c hc], fun x hx => by rw [g3 x hx, su_s, up_n hx, su_s, up_n hx], .inl ⟨⟨h0, h7⟩, ?_, g4, isMx_c g5 (fun _ => Iff.rfl) (fun x hx => by rw [up_n (by have := hx.1; omega), up_n (by have := hx.1; omega)])⟩⟩
      unfold Mo_drift_30_b
      rw [hn, if_pos (by omega), ix_q (by omega) (by omega), Int.toNat_natCast, ll_q]
      have o0' : Mo_of0 (i : Int) 0 (su τ 185 i 0) = some (mW (τ 173) i 0) := o0
      rw [o0', b1_q, if_pos h0, o7, b1_q, if_pos h7, ix_q (by omega) (by omega), ll_q]
      rw [show Mo_drift_83_w (i : Int) L a s 0 (su (su τ 185 i 0) 185 i 1) = _ from g1]
      refine wl_end ?_
      show Mo_drift_83_b (i : Int) L a s (i : Int) τ' = _
      have k1 := of0_q (τ := τ') (i := i) (f := 4) (by omega) (by decide)
      have mi := mrF_in (τ 173) a i
      unfold Mo_drift_83_b
      rw [if_neg (by omega), ix_q (by omega) (by omega), Int.toNat_natCast, grt_q, b1_q]
      rcases ha with ha | ⟨x, hx, hx2⟩
      · have m0 : mrF (τ 173) a i = 0 := by unfold mrF; rw [if_pos ha]
        rw [if_pos ha, if_neg (by omega), if_neg (by omega), wr_q (n := s + 0) (by omega) (by omega), wr_q (n := (i : Int) + 1) (by omega) (by omega), ll_q, ll_q, m0]
      · have hna : ¬ a = -1 := by omega
        have k2 := of0_q (τ := τ') (i := x) (f := 4) (by omega) (by decide)
        have bi := hM.2.2.2.2.1
        have bx := (hW.2.2.2.2 x (by omega)).2.2.2.2.1
        have m0 : mrF (τ 173) a i = cpF (mW (τ 173) i 4) (mW (τ 173) x 4) := by unfold mrF; rw [if_neg hna, hx, Int.toNat_natCast]
        rw [if_neg hna, show (4 : Int) = ((4 : Nat) : Int) from rfl, k1, hx, k2, b1_q, b1_q, w', wr_q (n := mW (τ 173) i 4 - mW (τ 173) x 4) (by omega) (by omega), ll_q, wr_q (n := (i : Int) + 1) (by omega) (by omega), ← hx, m0]
        unfold cpF
        by_cases z : mW (τ 173) x 4 < mW (τ 173) i 4
        · rw [if_pos (by omega), if_pos z, wr_q (by omega) (by omega), ll_q, ll_q]
        · rw [if_neg (by omega), if_neg z]
          by_cases z2 : mW (τ 173) i 4 < mW (τ 173) x 4
          · rw [if_pos (by omega), if_pos z2, wr_q (by omega) (by omega), ll_q, ll_q]
          · rw [if_neg (by omega), if_neg z2, wr_q (by omega) (by omega), ll_q, ll_q]
    · have h71 : mW (τ 173) i 7 = 1 := by
        rcases hM.2.2.2.2.2.2.2.1 with g | g
        · exact absurd g h7
        · exact g
      refine ⟨su τ 185 i 0, fun c hc => su_c hc, fun x hx => by rw [su_s, up_n hx], .inr ⟨fun z => h7 z.2, ?_, by rw [su_s, up_a]⟩⟩
      unfold Mo_drift_30_b
      rw [hn, if_pos (by omega), ix_q (by omega) (by omega), Int.toNat_natCast, ll_q]
      have o0' : Mo_of0 (i : Int) 0 (su τ 185 i 0) = some (mW (τ 173) i 0) := o0
      rw [o0', b1_q, if_pos h0, o7, b1_q, if_neg h7, wr_q (by omega) (by omega), ll_q]
  · refine ⟨su τ 185 i 0, fun c hc => su_c hc, fun x hx => by rw [su_s, up_n hx], .inr ⟨fun z => h0 z.1, ?_, by rw [su_s, up_a]⟩⟩
    unfold Mo_drift_30_b
    rw [hn, if_pos (by omega), ix_q (by omega) (by omega), Int.toNat_natCast, ll_q]
    have o0' : Mo_of0 (i : Int) 0 (su τ 185 i 0) = some (mW (τ 173) i 0) := o0
    rw [o0', b1_q, if_neg h0, wr_q (by omega) (by omega), ll_q]
end Drift
