/-! text: the law's sums -/
def FS (σ σ' τ τ' : Sg) : Prop :=
  (∀ c, c ≠ 141 → c ≠ 142 → c ≠ 144 → σ' c = σ c) ∧ (∀ j, j ≠ 2 → j ≠ 3 → j ≠ 9 → σ' 141 j = σ 141 j) ∧ (∀ j, j ≠ 3 → σ' 142 j = σ 142 j) ∧
  (∀ c, c ≠ 172 → c ≠ 178 → τ' c = τ c) ∧ (∀ j, (j < 14 ∨ j = 15 ∨ j = 16 ∨ j = 23 ∨ 25 ≤ j) → τ' 172 j = τ 172 j) ∧ τ 172 14 ≤ τ' 172 14 ∧ ∀ j : Nat, (j : Int) < 2 * τ 172 14 → τ' 178 j = τ 178 j
/-- the steps so far: s of them, those from a on leave the kinds st on the pile -/
def CX (a : Nat) (st : List Bool) (i pd : Nat) (σ τ : Sg) : Prop :=
  ∃ s : Nat, σ 142 3 = s ∧ τ 172 14 = s ∧ a ≤ s ∧ s + pd ≤ i ∧ (∀ j, j < s → stepR (σ 144 j) (τ 178 (2 * j)) (τ 178 (2 * j + 1))) ∧ tyN (fun j => τ 178 (2 * j)) a (s - a) [] = some st
section Sum
variable {c : Nat → Int} {n k T : Nat} {q : Nat → Nat} {i : Nat} {σ σ' σ'' τ τ' τ'' : Sg} {a pd : Nat} {st st' : List Bool}
theorem FS.refl : FS σ σ τ τ := ⟨fun _ _ _ _ => rfl, fun _ _ _ _ => rfl, fun _ _ => rfl, fun _ _ _ => rfl, fun _ _ => rfl, Int.le_refl _, fun _ _ => rfl⟩
theorem FS.trans (h : FS σ σ' τ τ') (h' : FS σ' σ'' τ' τ'') : FS σ σ'' τ τ'' := ⟨fun c a b d => (h'.1 c a b d).trans (h.1 c a b d), fun j a b d => (h'.2.1 j a b d).trans (h.2.1 j a b d), fun j a => (h'.2.2.1 j a).trans (h.2.2.1 j a), fun c a b => (h'.2.2.2.1 c a b).trans (h.2.2.2.1 c a b), fun j a => (h'.2.2.2.2.1 j a).trans (h.2.2.2.2.1 j a), Int.le_trans h.2.2.2.2.2.1 h'.2.2.2.2.2.1, fun j a => (h'.2.2.2.2.2.2 j (by have := h.2.2.2.2.2.1; omega)).trans (h.2.2.2.2.2.2 j a)⟩
theorem FS.P (h : FS σ σ' τ τ') : FP σ σ' τ τ' := ⟨fun c a b _ e => h.1 c a b e, h.2.1, fun c a _ b _ => h.2.2.2.1 c a b, fun j a => h.2.2.2.2.1 j (by omega)⟩
theorem tyN_snoc {kk : Nat → Int} : ∀ (m a : Nat) (st : List Bool), tyN kk a (m + 1) st = (tyN kk a m st).bind (fun st' => tyS (kk (a + m)) st')
  | 0, a, st => by
    show (tyS (kk a) st).bind (fun st' => some st') = (some st).bind (fun st' => tyS (kk (a + 0)) st')
    rw [Nat.add_zero]
    show _ = tyS (kk a) st
    cases tyS (kk a) st <;> rfl
  | m + 1, a, st => by
    show (tyS (kk a) st).bind (fun st' => tyN kk (a + 1) (m + 1) st') = ((tyS (kk a) st).bind (fun st' => tyN kk (a + 1) m st')).bind _
    cases tyS (kk a) st with
    | none => rfl
    | some s1 =>
      show tyN kk (a + 1) (m + 1) s1 = (tyN kk (a + 1) m s1).bind _
      rw [tyN_snoc m (a + 1) s1, show a + 1 + m = a + (m + 1) by omega]
theorem PX.ag (h : PX c n k T q i σ τ) (h1 : σ' 141 8 = σ 141 8) (h2 : σ' 141 9 = σ 141 9) (h6 : σ' 141 2 = σ 141 2) (h7 : σ' 141 3 = σ 141 3) (h3 : ∀ x, x = 146 ∨ x = 147 ∨ x = 148 → σ' x = σ x) (h4 : ∀ j, j = 12 ∨ (16 ≤ j ∧ j ≤ 20) → τ' 172 j = τ 172 j) (h5 : τ' 180 = τ 180) : PX c n k T q i σ' τ' := by
  obtain ⟨⟨t1, t2, t3, t4⟩, a, ⟨b1, b2, b3, b4⟩, d⟩ := h
  unfold PX TOK okT
  rw [h1, h2, h6, h7, h3 146 (by omega), h3 147 (by omega), h3 148 (by omega), h4 12 (by omega), h4 16 (by omega), h4 17 (by omega), h4 18 (by omega), h4 19 (by omega), h4 20 (by omega), h5]
  exact ⟨⟨t1, t2, t3, t4⟩, a, ⟨b1, b2, b3, b4⟩, d⟩
theorem emB {s : Nat} (h1 : σ 142 3 = s) (h2 : τ 172 14 = s) (hs : s < 400) (x kk v : Int) : ∃ σ' τ', Sh_emit 142 x σ = some σ' ∧ Mo_lay kk v τ = some τ' ∧ σ' 142 3 = (s : Int) + 1 ∧ τ' 172 14 = (s : Int) + 1 ∧ σ' 144 = up (σ 144) s x ∧ (τ' 178 (2 * s) = kk ∧ τ' 178 (2 * s + 1) = v ∧ ∀ j, j < 2 * s → τ' 178 j = τ 178 j) ∧ (∀ c, c ≠ 142 → c ≠ 144 → σ' c = σ c) ∧ (∀ j, j ≠ 3 → σ' 142 j = σ 142 j) ∧ (∀ c, c ≠ 172 → c ≠ 178 → τ' c = τ c) ∧ ∀ j, j ≠ 14 → τ' 172 j = τ 172 j := by
  have hln : ln (142 + 2) = 400 := by decide +kernel
  refine ⟨su (su σ 144 s x) 142 3 ((s : Int) + 1), su (su (su τ 178 (2 * s) kk) 178 (2 * s + 1) v) 172 14 ((s : Int) + 1), ?_, ?_, by rw [su_s, up_a], by rw [su_s, up_a], by rw [su_c (by decide), su_s], ⟨?_, ?_, fun j hj => ?_⟩, fun c a b => by rw [su_c a, su_c b], fun j a => by rw [su_s, up_n a, su_c (by decide)], fun c a b => by rw [su_c a, su_c b, su_c b], fun j a => by rw [su_s, up_n a, su_c (by decide), su_c (by decide)]⟩
  · unfold Sh_emit
    rw [h1, hln, if_pos (by omega), ix_q (by omega) (by omega), ll_q, Int.toNat_natCast, su_c (show (142 : Nat) ≠ 142 + 2 by decide), h1, wr_q (by omega) (by omega), ll_q]
  · unfold Mo_lay
    rw [h2, ix_q (by omega) (by omega), ll_q, show (2 * (s : Int)).toNat = 2 * s by omega, su_c (show (172 : Nat) ≠ 178 by decide), h2, ix_q (by omega) (by omega), ll_q, show (2 * (s : Int) + 1).toNat = 2 * s + 1 by omega, su_c (show (172 : Nat) ≠ 178 by decide), su_c (show (172 : Nat) ≠ 178 by decide), h2, wr_q (by omega) (by omega), ll_q]
  · rw [su_c (by decide), su_s, up_n (by omega), su_s, up_a]
  · rw [su_c (by decide), su_s, up_a]
  · rw [su_c (by decide), su_s, up_n (by omega), su_s, up_n (by omega)]
/-- a step is laid on both sides -/
theorem CX.em (h : CX a st i pd σ τ) (hi : i ≤ 400) (hP : PX c n k T q i σ τ) {pd' : Nat} (hpd : pd = pd' + 1 ∨ (pd = pd' ∧ i < T)) {x kk v : Int} (hx : stepR x kk v) (ht : tyS kk st = some st') : ∃ σ' τ', Sh_emit 142 x σ = some σ' ∧ Mo_lay kk v τ = some τ' ∧ (∀ i', i + pd + 1 ≤ i' + pd + (pd - pd') → CX a st' i' pd' σ' τ') ∧ FS σ σ' τ τ' ∧ PX c n k T q i σ' τ' ∧ τ' 172 24 = τ 172 24 := by
  obtain ⟨s, s1, s2, s3, s4, s5, s6⟩ := h
  have b4 := hP.i4
  obtain ⟨σ', τ', e1, e2, e3, e4, e5, ⟨e6, e7, e8⟩, e9, e10, e11, e12⟩ := emB s1 s2 (by omega) x kk v
  have pre : ∀ j, j < s → τ' 178 (2 * j) = τ 178 (2 * j) ∧ τ' 178 (2 * j + 1) = τ 178 (2 * j + 1) := fun j hj => ⟨e8 _ (by omega), e8 _ (by omega)⟩
  refine ⟨σ', τ', e1, e2, fun i' hi' => ⟨s + 1, e3, e4, by omega, by omega, fun j hj => ?_, ?_⟩, ⟨fun c a b d => e9 c b d, fun j _ _ _ => by rw [e9 141 (by decide) (by decide)], e10, e11, fun j hj => e12 j (by omega), by rw [e4, s2]; omega, fun j hj => e8 j (by rw [s2] at hj; omega)⟩, hP.ag (by rw [e9 141 (by decide) (by decide)]) (by rw [e9 141 (by decide) (by decide)]) (by rw [e9 141 (by decide) (by decide)]) (by rw [e9 141 (by decide) (by decide)]) (fun x hx => e9 x (by omega) (by omega)) (fun j hj => e12 j (by omega)) (e11 180 (by decide) (by decide)), e12 24 (by decide)⟩
  · rw [e5]
    by_cases z : j = s
    · rw [z, up_a, e6, e7]; exact hx
    · rw [up_n z, (pre j (by omega)).1, (pre j (by omega)).2]; exact s5 j (by omega)
  · rw [show s + 1 - a = (s - a) + 1 by omega, tyN_snoc, tyN_agr (k := fun j => τ 178 (2 * j)) _ _ _ (fun j h1 h2 => (pre j (by omega)).1), s6]
    show tyS (τ' 178 (2 * (a + (s - a)))) st = some st'
    rw [show a + (s - a) = s by omega, e6]; exact ht
theorem CX.ag (h : CX a st i pd σ τ) {i' : Nat} (hi : i ≤ i') (h1 : σ' 142 3 = σ 142 3) (h2 : σ' 144 = σ 144) (h3 : τ' 172 14 = τ 172 14) (h4 : τ' 178 = τ 178) : CX a st i' pd σ' τ' := by
  obtain ⟨s, s1, s2, s3, s4, s5, s6⟩ := h
  exact ⟨s, by rw [h1]; exact s1, by rw [h3]; exact s2, s3, by omega, by rw [h2, h4]; exact s5, by rw [h4]; exact s6⟩
/-- both go on behind a token -/
theorem PX.nxt (h : PX c n k T q i σ τ) (hi : i < T) : ∃ σ' τ', Re_advance σ = some σ' ∧ Mo_next0 τ = some τ' ∧ PX c n k T q (i + 1) σ' τ' ∧ FS σ σ' τ τ' ∧ τ' 172 24 = τ 172 24 ∧ σ' 142 = σ 142 ∧ σ' 144 = σ 144 ∧ τ' 172 14 = τ 172 14 ∧ τ' 178 = τ 178 := by
  obtain ⟨σ', τ', a1, a2, a3, a4, a5, a6, a7⟩ := h.adv
  rw [if_pos hi] at a3
  exact ⟨σ', τ', a1, a2, a3, ⟨fun c a _ _ => a4 c a, fun j _ _ b => a5 j b, fun j _ => by rw [a4 142 (by decide)], fun c a _ => a6 c a, fun j hj => a7 j (by omega) (by omega) (by omega) (by omega), by rw [a7 14 (by decide) (by decide) (by decide) (by decide)]; exact Int.le_refl _, fun j _ => by rw [a6 178 (by decide)]⟩, a7 24 (by decide) (by decide) (by decide) (by decide), a4 142 (by decide), a4 144 (by decide), a7 14 (by decide) (by decide) (by decide) (by decide), a6 178 (by decide)⟩
theorem PX.refS (h : PX c n k T q i σ τ) (x : Int) : ∃ σ' τ', Re_refuse x σ = some (0, σ') ∧ Mo_bad x τ = some (0, τ') ∧ FS σ σ' τ τ' ∧ FAIL σ' τ' := by
  have b4 := h.i4
  obtain ⟨-, ⟨a1, a2, a3⟩, -, d1, d2, d3, d4⟩ := h
  refine ⟨su (su σ 141 2 x) 141 3 (σ 148 i), su (su τ 172 21 x) 172 22 (τ 172 19), ?_, ?_, ⟨fun c a _ _ => by rw [su_c a, su_c a], fun j a b _ => by rw [su_s, up_n b, su_s, up_n a], fun j _ => by rw [su_c (by decide), su_c (by decide)], fun c a _ => by rw [su_c a, su_c a], fun j a => by rw [su_s, up_n (by omega), su_s, up_n (by omega)], by rw [su_s, up_n (by decide), su_s, up_n (by decide)]; exact Int.le_refl _, fun j _ => by rw [su_c (by decide), su_c (by decide)]⟩, ?_, ?_⟩
  · unfold Re_refuse
    have e : su σ 141 2 x 141 9 = i := by rw [su_s, up_n (by decide)]; exact a2
    rw [ll_q, e, ix_q (by omega) (by omega), ll_q, Int.toNat_natCast, su_c (show (148 : Nat) ≠ 141 by decide)]
  · unfold Mo_bad
    rw [ll_q, ll_q, su_s, up_n (show (19 : Nat) ≠ 21 by decide)]
  · rw [su_s, up_n (by decide), su_s, up_a, su_s, up_n (by decide), su_s, up_a]
  · rw [su_s, up_a, su_s, up_a, d3]
theorem tyS_num {s : Int} (h : 0 ≤ s ∧ s ≤ 10) (hl : st.length < 60) : tyS s st = some (false :: st) := by
  unfold tyS
  rw [if_pos h, if_pos hl]
/-- an operand -/
theorem opQ (h : PX c n 0 T q i σ τ) (hC : CX a st i pd σ τ) (hl : st.length < 60) : ∃ r σ' τ', Re_takeOperand σ = some (r, σ') ∧ Mo_unit τ = some (r, τ') ∧ FS σ σ' τ τ' ∧ ((r = 0 ∧ FAIL σ' τ') ∨ (r = 1 ∧ i < T ∧ PX c n 0 T q (i + 1) σ' τ' ∧ CX a (false :: st) (i + 1) pd σ' τ' ∧ τ' 172 24 = τ 172 24)) := by
  have b4 := h.i4
  have a2 : σ 141 9 = i := h.2.1.2.1
  have go : ∀ (x kk v : Int), i < T → stepR x kk v → 0 ≤ kk ∧ kk ≤ 10 → ∃ σ1 σ' τ1 τ', Sh_emit 142 x σ = some σ1 ∧ Re_advance σ1 = some σ' ∧ Mo_lay kk v τ = some τ1 ∧ Mo_next0 τ1 = some τ' ∧ FS σ σ' τ τ' ∧ PX c n 0 T q (i + 1) σ' τ' ∧ CX a (false :: st) (i + 1) pd σ' τ' ∧ τ' 172 24 = τ 172 24 := by
    intro x kk v hi hx hk
    obtain ⟨σ1, τ1, e1, e2, e3, e4, e5, e6⟩ := hC.em (pd' := pd) (by omega) h (.inr ⟨rfl, hi⟩) hx (tyS_num hk hl)
    obtain ⟨σ', τ', g1, g2, g3, g4, g5, g6, g7, g8, g9⟩ := e5.nxt hi
    exact ⟨σ1, σ', τ1, τ', e1, g1, e2, g2, e4.trans g4, g3, (e3 (i + 1) (by omega)).ag (Nat.le_refl _) (by rw [g6]) g7 g8 g9, by rw [g5, e6]⟩
  unfold Re_takeOperand Mo_unit
  rw [a2, ix_q (by omega) (by omega), Int.toNat_natCast, isIn_q, b1_q]
  rcases h.num with ⟨y1, y2, y3, y4, y5, y6⟩ | ⟨y1, y2⟩
  · obtain ⟨σ1, σ', τ1, τ', g1, g2, g3, g4, g5, g6, g7, g8⟩ := go (σ 147 i * 16) 0 (σ 147 i) y4 (.inl ⟨rfl, y5, y6, rfl⟩) (by decide)
    refine ⟨1, σ', τ', ?_, ?_, g5, .inr ⟨rfl, y4, g6, g7, g8⟩⟩
    · unfold Ju_step
      rw [if_pos y1, ix_q (by omega) (by omega), b1_q, Int.add_zero, wr_q (by omega) (by omega), g1, b1_q, g2, b1_q]
    · rw [y2, y3, if_neg (show ¬ (41 ≤ (2 : Int) ∧ (2 : Int) ≤ 50) by decide), if_pos (show (2 : Int) = 2 from rfl), b1_q, if_neg (show ¬ (1 : Int) = 0 by decide), if_pos (show (0 : Int) = 0 from rfl), b1_q, g3, b1_q, g4, b1_q]
  · rw [if_neg y1, ix_q (by omega) (by omega), if_neg y2]
    by_cases z : σ 146 i = 1 ∧ 9 ≤ σ 147 i
    · have kd := h.kd
      have hw : i < T ∧ σ 147 i < 19 := by
        rcases kd with y | y | y | y | y
        · omega
        · exact ⟨y.2.1, y.2.2.2⟩
        · omega
        · omega
        · omega
      have htok : τ 172 18 = σ 147 i + 32 := by
        rw [h.2.2.2.2.1]
        unfold tkc tkW
        rw [z.1, if_neg (by decide), if_pos rfl, if_neg (by omega)]
        obtain ⟨w, hw'⟩ := Int.eq_ofNat_of_zero_le (show 0 ≤ σ 147 i by omega)
        have hw' : σ 147 i = (w : Int) := hw'
        rw [hw', Int.toNat_natCast]
        have : ∀ w : Nat, w < 19 → 9 ≤ w → (tkT 0).getD w 1 = (w : Int) + 32 := by decide +kernel
        exact this w (by omega) (by omega)
      obtain ⟨σ1, σ', τ1, τ', g1, g2, g3, g4, g5, g6, g7, g8⟩ := go ((σ 147 i - 9) * 16 + 1) (σ 147 i - 8) (τ 172 20) hw.1 (.inr (.inl ⟨by omega, by omega, by omega⟩)) (by omega)
      refine ⟨1, σ', τ', ?_, ?_, g5, .inr ⟨rfl, hw.1, g6, g7, g8⟩⟩
      · unfold Ju_step
        rw [if_pos z.1, ix_q (by omega) (by omega), if_neg (by omega), b1_q, i00, ix_q (by omega) (by omega), wr_q (n := σ 147 i - 9) (by omega) (by omega), b1_q, wr_q (by omega) (by omega), g1, b1_q, g2, b1_q]
      · rw [htok, if_pos (show 41 ≤ σ 147 i + 32 ∧ σ 147 i + 32 ≤ 50 by omega), show (if (1 : Int) = 0 then some (0 : Int) else some 1) = some 1 from rfl, b1_q, if_neg (show ¬ (1 : Int) = 0 by decide), if_neg (show ¬ (1 : Int) = 0 by decide), wr_q (by omega) (by omega), b1_q, show σ 147 i + 32 - 40 = σ 147 i - 8 by omega, g3, b1_q, g4, b1_q]
    · obtain ⟨σ', τ', g1, g2, g3, g4⟩ := h.refS 1
      have tC : (if σ 146 i = 1 then ix ((i : Nat) : Int) 401 (if σ 147 i < 9 then some 1 else some 0) else some 1) = some (1 : Int) := by
        by_cases y : σ 146 i = 1
        · rw [if_pos y, ix_q (by omega) (by omega), if_pos (by omega)]
        · rw [if_neg y]
      have tM : ¬ (41 ≤ τ 172 18 ∧ τ 172 18 ≤ 50) := by
        rw [h.2.2.2.2.1]
        unfold tkc
        rcases h.kd with y | y | y | y | y
        · rw [y.1, if_pos rfl]; omega
        · rw [y.1, if_neg (by decide), if_pos rfl]
          unfold tkW
          rw [if_neg (by omega)]
          obtain ⟨w, hw'⟩ := Int.eq_ofNat_of_zero_le y.2.2.1
          have hw' : σ 147 i = (w : Int) := hw'
          rw [hw', Int.toNat_natCast]
          have : ∀ w : Nat, w < 9 → ¬ (41 ≤ (tkT 0).getD w 1 ∧ (tkT 0).getD w 1 ≤ 50) := by decide +kernel
          exact this w (by omega)
        · exact absurd y.1 y1
        · rw [y.1, if_neg (by decide), if_neg (by decide), if_neg (by decide), if_pos rfl]
          unfold sgF
          split <;> omega
        · rw [y.1, if_neg (by decide), if_neg (by decide), if_neg (by decide), if_neg (by decide)]; omega
      refine ⟨0, σ', τ', ?_, ?_, g3, .inl ⟨rfl, g4⟩⟩
      · rw [tC, b1_q, if_neg (by decide), g1, b2_q]
      · rw [if_neg tM, if_pos rfl, b1_q, if_pos rfl, g2, b2_q]
end Sum
