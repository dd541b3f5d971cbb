/-! drift: the class, and the call -/
def dfR (one : Int) (i : Nat) (σ τ : Sg) : Prop := ∀ k : Nat, k < 10 → isMx (fun x => x < i ∧ sdF (τ 173) one x ∧ mW (τ 173) x 4 = k) (τ 185) (σ 168 k)
section Drift2
theorem mx_le {P : Nat → Prop} {f : Nat → Int} {m c : Int} (h : isMx P f m) (hc : 0 ≤ c) (hp : ∀ x, P x → f x ≤ c) : 0 ≤ m ∧ m ≤ c := by
  refine ⟨h.1, ?_⟩
  rcases h.2.2 with z | ⟨x, x1, x2⟩
  · omega
  · have := hp x x1; omega
/-- the class lays its row bare -/
theorem drZ (one : Int) : ∀ (m k : Nat) (σ : Sg), k + m = 10 → (∀ j, j < k → σ 168 j = 0) → ∃ σ', Gl_longestFall_2_w 2 one (k : Int) σ = Gl_longestFall_2_w 2 one (10 : Int) σ' ∧ (∀ j, j < 10 → σ' 168 j = 0) ∧ ∀ c, c ≠ 168 → σ' c = σ c
  | 0, k, σ, hk, hz => ⟨σ, by rw [show k = 10 by omega]; rfl, fun j hj => hz j (by omega), fun _ _ => rfl⟩
  | m + 1, k, σ, hk, hz => by
    obtain ⟨σ', e1, e2, e3⟩ := drZ one m (k + 1) (su σ 168 k 0) (by omega) (fun j hj => by
      rw [su_s]
      by_cases jk : j = k
      · rw [jk, up_a]
      · rw [up_n jk]; exact hz j (by omega))
    refine ⟨σ', ?_, e2, fun c hc => by rw [e3 c hc, su_c hc]⟩
    rw [← e1]
    refine wl_go ?_
    show Gl_longestFall_2_b 2 one (k : Int) σ = _
    unfold Gl_longestFall_2_b
    rw [if_pos (by omega), ix_q (by omega) (by omega), ll_q, ll_q, wr_q (by omega) (by omega), Int.toNat_natCast]
    rfl
/-- the class: what lies above -/
theorem drC {one : Int} {i : Nat} {σ τ : Sg} (hR : dfR one i σ τ) {kiss : Nat} (hk : mW (τ 173) i 4 = kiss) (L : Int) : ∀ (m v : Nat) (acc : Int), v + m = 10 → kiss < v → isMx (fun x => drP (τ 173) one i i x ∧ mW (τ 173) x 4 < v) (τ 185) acc → ∃ acc', Gl_longestFall_92_w σ (kiss : Int) L (i : Int) acc (v : Int) = Gl_longestFall_92_w σ (kiss : Int) L (i : Int) acc' 10 ∧ isMx (fun x => drP (τ 173) one i i x ∧ mW (τ 173) x 4 < 10) (τ 185) acc'
  | 0, v, acc, hv, hkv, hm => ⟨acc, by rw [show v = 10 by omega]; rfl, by rw [show v = 10 by omega] at hm; exact hm⟩
  | m + 1, v, acc, hv, hkv, hm => by
    have hj := isMx_j hm (hR v (by omega)) (R := fun x => drP (τ 173) one i i x ∧ mW (τ 173) x 4 < ((v + 1 : Nat) : Int)) (fun x => ⟨fun z => by
      by_cases e : mW (τ 173) x 4 = v
      · exact .inr ⟨z.1.1, z.1.2.1, e⟩
      · exact .inl ⟨z.1, by have := z.2; omega⟩, fun z => by
      rcases z with z | z
      · exact ⟨z.1, by have := z.2; omega⟩
      · exact ⟨⟨z.1, z.2.1, by have := z.2.2; omega⟩, by have := z.2.2; omega⟩⟩)
    obtain ⟨acc', g1, g2⟩ := drC hR hk L m (v + 1) _ (by omega) (by omega) hj
    refine ⟨acc', ?_, g2⟩
    rw [← g1]
    refine wl_go ?_
    show Gl_longestFall_92_b σ (kiss : Int) L (i : Int) acc (v : Int) = _
    unfold Gl_longestFall_92_b
    rw [if_pos (by omega), ix_q (by omega) (by omega), Int.toNat_natCast, jmax_q, b1_q, wr_q (by omega) (by omega), ll_q]
    rfl
/-- the class: one message -/
theorem drS {one : Int} {n i : Nat} {σ τ τ' : Sg} (hT : TR 2 σ (τ 173)) (hW : WF (τ 173)) (hn : τ 173 3 = n) (hi : i < n) (hH : drH one i τ) (hR : dfR one i σ τ) (L : Int) (hw : τ' 173 = τ 173) (ho : ∀ x, x ≠ i → τ' 185 x = τ 185 x) :
    (sdF (τ 173) one i → isMx (drP (τ 173) one i i) (τ 185) (τ' 185 i - 1) → 1 ≤ τ' 185 i ∧ τ' 185 i ≤ i + 1 → ∃ σ', Gl_longestFall_29_b 2 one L (i : Int) σ = some (.inl (mx2 L (τ' 185 i), (i : Int) + 1, σ')) ∧ (∀ c, c ≠ 168 → σ' c = σ c) ∧ dfR one (i + 1) σ' τ') ∧
    (¬ sdF (τ 173) one i → Gl_longestFall_29_b 2 one L (i : Int) σ = some (.inl (L, (i : Int) + 1, σ)) ∧ dfR one (i + 1) σ τ') := by
  have h60 := hW.2.2.1
  have hM := hW.2.2.2.2 i (by omega)
  have h22 : σ 2 2 = n := hT.2.2.1.trans hn
  have s0 : σ (2 + 4) i = mW (τ 173) i 0 := hT.2.2.2.2.2.2.2 i 0 (by omega) (by decide)
  have s4 : σ (2 + 8) i = mW (τ 173) i 4 := hT.2.2.2.2.2.2.2 i 4 (by omega) (by decide)
  have s7 : σ (2 + 11) i = mW (τ 173) i 7 := hT.2.2.2.2.2.2.2 i 7 (by omega) (by decide)
  have b4 := hM.2.2.2.2.1
  obtain ⟨kiss, hk⟩ := Int.eq_ofNat_of_zero_le b4.1
  have stay : ¬ sdF (τ 173) one i → dfR one (i + 1) σ τ' := fun hs k hk' => by
    rw [hw]
    refine isMx_c (hR k hk') (fun x => ⟨fun z => ⟨by have := z.1; omega, z.2⟩, fun z => ⟨?_, z.2⟩⟩) (fun x z => ho x ?_)
    · have := z.1
      by_cases e : x = i
      · rw [e] at z; exact absurd z.2.1 hs
      · omega
    · intro e; rw [e] at z; exact hs z.2.1
  refine ⟨fun hs hm hb => ?_, fun hs => ⟨?_, stay hs⟩⟩
  · obtain ⟨acc, g1, g2⟩ := drC hR hk L (9 - kiss) (kiss + 1) 0 (by omega) (by omega) (isMx_0 (fun x z => by
      have z1 := z.1.2.2
      have z2 := z.2
      omega))
    have hacc : acc = τ' 185 i - 1 := isMx_u (isMx_c g2 (fun x => ⟨fun z => z.1, fun z => ⟨z, by
      have := (hW.2.2.2.2 x (by have := z.1; omega)).2.2.2.2.1
      omega⟩⟩) (fun _ _ => rfl)) hm
    refine ⟨su σ 168 kiss (mx2 (σ 168 kiss) (τ' 185 i)), ?_, fun c hc => su_c hc, fun k hk' => ?_⟩
    · unfold Gl_longestFall_29_b
      rw [h22, if_pos (by omega), ix_q (by omega) (by omega), Int.toNat_natCast, ll_q, ix_q (by omega) (by omega), s0, if_pos hs.1, ix_q (by omega) (by omega), s7, if_pos hs.2, s4, hk, if_neg (by omega), if_pos (by omega), wr_q (by omega) (by omega), ll_q]
      rw [show ((kiss : Nat) : Int) + 1 = ((kiss + 1 : Nat) : Int) by omega, g1]
      refine wl_end ?_
      show Gl_longestFall_92_b σ (kiss : Int) L (i : Int) acc 10 = _
      unfold Gl_longestFall_92_b
      rw [if_neg (by omega), ix_q (by omega) (by omega), Int.toNat_natCast, wr_q (n := acc + 1) (by omega) (by omega), jmax_q, b1_q, ix_q (by omega) (by omega), ll_q, jmax_q, b1_q, wr_q (by omega) (by omega), ll_q, show acc + 1 = τ' 185 i by omega]
    · rw [hw, su_s]
      by_cases e : k = kiss
      · rw [e, up_a]
        have hold := isMx_c (hR kiss (by omega)) (Q := fun x => x < i ∧ sdF (τ 173) one x ∧ mW (τ 173) x 4 = kiss) (g := τ' 185) (fun _ => Iff.rfl) (fun x z => ho x (by have := z.1; omega))
        exact isMx_j hold (isMx_1 (P := fun x => x = i) (fun _ => Iff.rfl) (by omega)) (fun x => ⟨fun z => by
          by_cases e : x = i
          · exact .inr e
          · exact .inl ⟨by have := z.1; omega, z.2⟩, fun z => by
          rcases z with z | z
          · exact ⟨by have := z.1; omega, z.2⟩
          · rw [z]; exact ⟨by omega, hs, hk⟩⟩)
      · rw [up_n e]
        refine isMx_c (hR k hk') (fun x => ⟨fun z => ⟨by have := z.1; omega, z.2⟩, fun z => ⟨?_, z.2⟩⟩) (fun x z => ho x ?_)
        · have := z.1
          by_cases e' : x = i
          · have z3 := z.2.2
            rw [e', hk] at z3; omega
          · omega
        · intro e'
          have z3 := z.2.2
          rw [e', hk] at z3; omega
  · unfold Gl_longestFall_29_b
    rw [h22, if_pos (by omega), ix_q (by omega) (by omega), Int.toNat_natCast, ll_q, ix_q (by omega) (by omega), s0]
    by_cases h0 : mW (τ 173) i 0 = one
    · rw [if_pos h0, ix_q (by omega) (by omega), s7, if_neg (fun z => hs ⟨h0, z⟩), wr_q (by omega) (by omega), ll_q]
    · rw [if_neg h0, wr_q (by omega) (by omega), ll_q]
theorem drH_go {one : Int} {i : Nat} {τ τ' : Sg} (hH : drH one i τ) (hw : τ' 173 = τ 173) (ho : ∀ x, x ≠ i → τ' 185 x = τ 185 x) (h1 : sdF (τ 173) one i → 1 ≤ τ' 185 i ∧ τ' 185 i ≤ i + 1) (h2 : ¬ sdF (τ 173) one i → τ' 185 i = 0) : drH one (i + 1) τ' := by
  intro x hx
  rw [hw]
  by_cases e : x = i
  · rw [e]; exact ⟨h1, h2⟩
  · rw [ho x e]; exact hH x (by omega)
theorem p_drift {σ τ : Sg} (h : Inv σ τ) (a b : Int) : Same2 (Td_drift a b σ) (Mo_drift a b τ) := by
  unfold Td_drift Mo_drift
  rw [isOneC_q, isOneM_q, b1_q, b1_q]
  by_cases ha : a = 0 ∨ a = 1
  · rw [if_pos ha, i10, i10, within_q, isIn_q, b1_q, b1_q]
    by_cases hb : 0 ≤ b ∧ b ≤ 1
    · rw [if_pos hb, i10, i10]
      obtain ⟨hT, hW, -⟩ := h.1
      have h60 := hW.2.2.1
      obtain ⟨n, hn⟩ := Int.eq_ofNat_of_zero_le h60.1
      by_cases b0 : b = 0
      · rw [if_pos b0]
        obtain ⟨σ1, z1, z2, z3⟩ := drZ a 10 0 σ (by omega) (fun j hj => (by omega))
        have hI1 : Inv σ1 τ := h.scr (fun k hk => z3 k (by omega)) (by rw [z3 _ (by decide)]) (by rw [z3 _ (by decide)]) (by rw [z3 _ (by decide)]) (fun _ _ => rfl) (fun _ _ => rfl)
        have key := wl_two (B := fun p : Int × Int × Sg => Gl_longestFall_29_b 2 a p.1 p.2.1 p.2.2) (B' := fun p : Int × Int × Int × Int × Sg => Mo_drift_30_b a b p.1 p.2.1 p.2.2.1 p.2.2.2.1 p.2.2.2.2) (fun p => ((n : Int) - p.2.1).toNat)
          (fun p q => p.1 = q.1 ∧ p.2.1 = q.2.2.2.1 ∧ Inv p.2.2 q.2.2.2.2 ∧ q.2.2.2.2 173 3 = n ∧ ∃ k : Nat, p.2.1 = k ∧ k ≤ n ∧ drH a k q.2.2.2.2 ∧ dfR a k p.2.2 q.2.2.2.2 ∧ (-(k : Int) ≤ q.2.1 ∧ q.2.1 ≤ k) ∧ (q.2.2.1 = -1 ∨ ∃ x : Nat, q.2.2.1 = x ∧ x < n))
          (fun r r' => ∃ L σ' τ', r = .inr (L, σ') ∧ r' = (L, τ') ∧ Inv σ' τ')
          (fun ⟨L, i, σ⟩ ⟨L', s, ah, i', τ⟩ ⟨e1, e2, e3, e4, k, e5, e6, e7, e8, e9, e10⟩ => by
            dsimp only at e1 e2 e3 e4 e5 e6 e7 e8 e9 e10 ⊢
            subst e1 e2 e5
            obtain ⟨hT, hW, -⟩ := e3.1
            have h22 : σ 2 2 = n := hT.2.2.1.trans e4
            by_cases hk : k < n
            · right
              obtain ⟨τ', t1, t2, t3⟩ := drM (one := a) (what := b) hW e4 hk e7 L s ah (by omega) e10
              have hw : τ' 173 = τ 173 := t1 173 (by decide)
              have hs := drS hT hW e4 hk e7 e8 L hw t2
              rcases t3 with ⟨t3, t4, t5, t6⟩ | ⟨t3, t4, t5⟩
              · obtain ⟨σ', u1, u2, u3⟩ := hs.1 t3 t6 t5
                have mi := mrF_in (τ 173) ah k
                refine ⟨_, _, u1, t4, ⟨rfl, rfl, ?_, ?_, k + 1, by dsimp only; omega, by omega, ?_, u3, by dsimp only; omega, .inr ⟨k, rfl, hk⟩⟩, by dsimp only; omega⟩
                · dsimp only; exact e3.scr (fun c hc => u2 c (by omega)) (by rw [u2 _ (by decide)]) (by rw [u2 _ (by decide)]) (by rw [u2 _ (by decide)]) (fun c hc => t1 c (by omega)) (fun j _ => by rw [t1 _ (by decide)])
                · dsimp only; rw [hw]; exact e4
                · exact drH_go e7 hw t2 (fun _ => t5) (fun z => absurd t3 z)
              · obtain ⟨u1, u2⟩ := hs.2 t3
                refine ⟨_, _, u1, t4, ⟨rfl, rfl, ?_, ?_, k + 1, by dsimp only; omega, by omega, ?_, u2, by dsimp only; omega, e10⟩, by dsimp only; omega⟩
                · dsimp only; exact e3.scr (fun c hc => rfl) rfl rfl rfl (fun c hc => t1 c (by omega)) (fun j _ => by rw [t1 _ (by decide)])
                · dsimp only; rw [hw]; exact e4
                · exact drH_go e7 hw t2 (fun z => absurd z t3) (fun _ => t5)
            · left
              refine ⟨_, _, ?_, ?_, L, σ, τ, rfl, rfl, e3⟩
              · unfold Gl_longestFall_29_b
                rw [h22, if_neg (by omega)]
              · unfold Mo_drift_30_b
                rw [e4, if_neg (by omega), if_pos b0]) (0, 0, σ1) (0, 0, -1, 0, τ)
          ⟨rfl, rfl, hI1, hn, 0, rfl, by omega, fun x hx => (by omega), fun k hk => by
            dsimp only
            rw [z2 k hk]; exact isMx_0 (fun x z => by have := z.1; omega), by dsimp only; omega, .inl rfl⟩
        obtain ⟨r, r', k1, k2, L, σ', τ', rfl, rfl, k3⟩ := key
        have g1 : Gl_longestFall 2 a σ = some (L, σ') := by
          unfold Gl_longestFall
          rw [show (0 : Int) = ((0 : Nat) : Int) from rfl, z1]
          refine wl_end ?_
          show Gl_longestFall_2_b 2 a (10 : Int) σ1 = _
          unfold Gl_longestFall_2_b
          rw [if_neg (by omega)]
          exact k1
        rw [g1, b2_q]
        exact ⟨L, σ', τ', rfl, k2, k3⟩
      · rw [if_neg b0]
        have key := wl_two (B := fun p : Int × Int × Int => Gl_risesLessFalls_8_b σ 2 a p.1 p.2.1 p.2.2) (B' := fun p : Int × Int × Int × Int × Sg => Mo_drift_30_b a b p.1 p.2.1 p.2.2.1 p.2.2.2.1 p.2.2.2.2) (fun p => ((n : Int) - p.2.2).toNat)
          (fun p q => p.1 = q.2.1 ∧ p.2.1 = q.2.2.1 ∧ p.2.2 = q.2.2.2.1 ∧ Inv σ q.2.2.2.2 ∧ q.2.2.2.2 173 3 = n ∧ ∃ k : Nat, p.2.2 = k ∧ k ≤ n ∧ drH a k q.2.2.2.2 ∧ (-(k : Int) ≤ q.2.1 ∧ q.2.1 ≤ k) ∧ (q.2.2.1 = -1 ∨ ∃ x : Nat, q.2.2.1 = x ∧ x < n))
          (fun r r' => ∃ τ', r' = (r, τ') ∧ Inv σ τ')
          (fun ⟨s, ah, i⟩ ⟨L, s', ah', i', τ⟩ ⟨e1, e2, e3, e4, e5, k, e6, e7, e8, e9, e10⟩ => by
            dsimp only at e1 e2 e3 e4 e5 e6 e7 e8 e9 e10 ⊢
            subst e1 e2 e3 e6
            obtain ⟨hT, hW, -⟩ := e4.1
            have h22 : σ 2 2 = n := hT.2.2.1.trans e5
            by_cases hk : k < n
            · right
              obtain ⟨τ', t1, t2, t3⟩ := drM (one := a) (what := b) hW e5 hk e8 L s ah (by omega) e10
              have hw : τ' 173 = τ 173 := t1 173 (by decide)
              have s0 : σ (2 + 4) k = mW (τ 173) k 0 := hT.2.2.2.2.2.2.2 k 0 (by omega) (by decide)
              have s4 : σ (2 + 8) k = mW (τ 173) k 4 := hT.2.2.2.2.2.2.2 k 4 (by omega) (by decide)
              have s7 : σ (2 + 11) k = mW (τ 173) k 7 := hT.2.2.2.2.2.2.2 k 7 (by omega) (by decide)
              have hI' : Inv σ τ' := e4.scr (fun c hc => rfl) rfl rfl rfl (fun c hc => t1 c (by omega)) (fun j _ => by rw [t1 _ (by decide)])
              have hn' : τ' 173 3 = n := by rw [hw]; exact e5
              rcases t3 with ⟨t3, t4, t5, t6⟩ | ⟨t3, t4, t5⟩
              · have mi := mrF_in (τ 173) ah k
                have u1 : Gl_risesLessFalls_8_b σ 2 a s ah (k : Int) = some (.inl (s + mrF (τ 173) ah k, (k : Int), (k : Int) + 1)) := by
                  unfold Gl_risesLessFalls_8_b
                  rw [h22, if_pos (by omega), ix_q (by omega) (by omega), Int.toNat_natCast, s0, if_pos t3.1, ix_q (by omega) (by omega), s7, if_pos t3.2]
                  rcases e10 with e10 | ⟨x, x1, x2⟩
                  · have m0 : mrF (τ 173) ah k = 0 := by unfold mrF; rw [if_pos e10]
                    rw [if_pos e10, m0, wr_q (by omega) (by omega), wr_q (by omega) (by omega), ll_q, ll_q]
                  · have hna : ¬ ah = -1 := by omega
                    have x4 : σ (2 + 8) x = mW (τ 173) x 4 := hT.2.2.2.2.2.2.2 x 4 (by omega) (by decide)
                    have m0 : mrF (τ 173) ah k = cpF (mW (τ 173) k 4) (mW (τ 173) x 4) := by unfold mrF; rw [if_neg hna, x1, Int.toNat_natCast]
                    rw [if_neg hna, ix_q (by omega) (by omega), ix_q (by omega) (by omega), x1, Int.toNat_natCast, s4, x4, cpF_C, b1_q, ← x1, ← m0, wr_q (by omega) (by omega), wr_q (by omega) (by omega), ll_q, ll_q]
                exact ⟨_, _, u1, t4, ⟨rfl, rfl, rfl, hI', hn', k + 1, by dsimp only; omega, by omega, drH_go e8 hw t2 (fun _ => t5) (fun z => absurd t3 z), by dsimp only; omega, .inr ⟨k, rfl, hk⟩⟩, by dsimp only; omega⟩
              · have u1 : Gl_risesLessFalls_8_b σ 2 a s ah (k : Int) = some (.inl (s, ah, (k : Int) + 1)) := by
                  unfold Gl_risesLessFalls_8_b
                  rw [h22, if_pos (by omega), ix_q (by omega) (by omega), Int.toNat_natCast, s0]
                  by_cases h0 : mW (τ 173) k 0 = a
                  · rw [if_pos h0, ix_q (by omega) (by omega), s7, if_neg (fun z => t3 ⟨h0, z⟩), wr_q (by omega) (by omega), ll_q]
                  · rw [if_neg h0, wr_q (by omega) (by omega), ll_q]
                exact ⟨_, _, u1, t4, ⟨rfl, rfl, rfl, hI', hn', k + 1, by dsimp only; omega, by omega, drH_go e8 hw t2 (fun z => absurd z t3) (fun _ => t5), by dsimp only; omega, e10⟩, by dsimp only; omega⟩
            · left
              refine ⟨s, (s, τ), ?_, ?_, τ, rfl, e4⟩
              · unfold Gl_risesLessFalls_8_b
                rw [h22, if_neg (by omega)]
              · unfold Mo_drift_30_b
                rw [e5, if_neg (by omega), if_neg b0]) (0, -1, 0) (0, 0, -1, 0, τ)
          ⟨rfl, rfl, rfl, h, hn, 0, rfl, by omega, fun x hx => (by omega), by dsimp only; omega, .inl rfl⟩
        obtain ⟨r, r', k1, k2, τ', rfl, k3⟩ := key
        rw [show Gl_risesLessFalls 2 a σ = some r from k1, b1_q]
        exact ⟨r, σ, τ', rfl, k2, k3⟩
    · rw [if_neg hb, i00, i00]; exact ⟨_, _, _, rfl, rfl, h⟩
  · rw [if_neg ha, i00, i00]; exact ⟨_, _, _, rfl, rfl, h⟩
end Drift2
