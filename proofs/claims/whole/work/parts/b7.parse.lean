/-! text: class and reference at one token -/
def PX (c : Nat → Int) (n k T : Nat) (q : Nat → Nat) (i : Nat) (σ τ : Sg) : Prop :=
  TOK c n k σ T q ∧ (σ 141 8 = (T : Int) + 1 ∧ σ 141 9 = i ∧ i ≤ T) ∧ (okT n τ ∧ τ 180 = c ∧ τ 172 12 = k ∧ k < 4) ∧
  τ 172 17 = q (i + 1) ∧ τ 172 18 = tkc k (σ 146 i) (σ 147 i) ∧ τ 172 19 = σ 148 i ∧ (σ 146 i = 2 → τ 172 20 = σ 147 i) ∧ σ 141 2 = 0 ∧ σ 141 3 = -1
/-- what of the machine's rows a reading may change -/
def FP (σ σ' τ τ' : Sg) : Prop :=
  (∀ c, c ≠ 141 → c ≠ 142 → c ≠ 143 → c ≠ 144 → σ' c = σ c) ∧ (∀ j, j ≠ 2 → j ≠ 3 → j ≠ 9 → σ' 141 j = σ 141 j) ∧
  (∀ c, c ≠ 172 → c ≠ 177 → c ≠ 178 → c ≠ 179 → τ' c = τ c) ∧ ∀ j, (j < 13 ∨ j = 16 ∨ j = 23 ∨ 25 ≤ j) → τ' 172 j = τ 172 j
def FAIL (σ τ : Sg) : Prop := σ 141 2 = τ 172 21 ∧ σ 141 3 = τ 172 22
section Parse
variable {c : Nat → Int} {n k T : Nat} {q : Nat → Nat} {i : Nat} {σ σ' σ'' τ τ' τ'' : Sg}
theorem FP.refl : FP σ σ τ τ := ⟨fun _ _ _ _ _ => rfl, fun _ _ _ _ => rfl, fun _ _ _ _ _ => rfl, fun _ _ => rfl⟩
theorem FP.trans (h : FP σ σ' τ τ') (h' : FP σ' σ'' τ' τ'') : FP σ σ'' τ τ'' := ⟨fun c a b d e => (h'.1 c a b d e).trans (h.1 c a b d e), fun j a b d => (h'.2.1 j a b d).trans (h.2.1 j a b d), fun c a b d e => (h'.2.2.1 c a b d e).trans (h.2.2.1 c a b d e), fun j a => (h'.2.2.2 j a).trans (h.2.2.2 j a)⟩
theorem tkT_in : ∀ k, k < 4 → ∀ j, j < 19 → 1 ≤ (tkT k).getD j 1 ∧ (tkT k).getD j 1 ≤ 50 ∧ (tkT k).getD j 1 ≠ 2 := by decide +kernel
theorem tkT_hi (k j : Nat) (h : 19 ≤ j) : (tkT k).getD j 1 = 1 := by
  have hl : (tkT k).length ≤ 19 := by unfold tkT; split <;> decide
  rw [List.getD_eq_getElem?_getD, List.getElem?_eq_none (by omega)]
  rfl
theorem tkW_in (hk : k < 4) (j : Int) : 1 ≤ tkW k j ∧ tkW k j ≤ 50 ∧ tkW k j ≠ 2 := by
  unfold tkW
  split
  · decide
  · rcases Nat.lt_or_ge j.toNat 19 with z | z
    · exact tkT_in k hk _ z
    · rw [tkT_hi k _ z]; decide
theorem wxL_in : ∀ (ids : List Nat) (l : List Int) (j : Int), wxL ids l j = -1 ∨ (j ≤ wxL ids l j ∧ wxL ids l j < j + ids.length)
  | [], _, _ => .inl rfl
  | i :: r, l, j => by
    unfold wxL
    by_cases z : l = chL i
    · rw [if_pos z, List.length_cons]; right; omega
    · rw [if_neg z, List.length_cons]
      rcases wxL_in r l (j + 1) with h | h
      · exact .inl h
      · right; omega
/-- what a token may be -/
theorem TKN_kd {p : Nat} {kd vl : Int} {pl en : Nat} (h : TKN c n k p kd vl pl en) : (kd = 0 ∧ vl = 0 ∧ pl = n ∧ en = n) ∨ (kd = 1 ∧ 0 ≤ vl ∧ vl < (wids k).length) ∨ (kd = 2 ∧ 0 ≤ vl ∧ vl ≤ 9999) ∨ kd = 3 ∨ kd = 4 := by
  rcases h.2 with ⟨a1, a2, a3, a4⟩ | ⟨a1, a2, a3, a4, a5⟩ | ⟨a1, a2, a3, a4, a5, a6⟩ | ⟨a1, a2, a3, a4, a5, a6⟩
  · exact .inl ⟨a2, a3, a1, a4⟩
  · have w := wxL_in (wids k) (seg c pl (en - pl)) 0
    rw [← a4] at w
    by_cases z : vl = -1
    · rw [if_pos z] at a5
      exact .inr (.inr (.inr (.inr a5)))
    · rw [if_neg z] at a5
      rcases w with w | w
      · exact absurd w z
      · exact .inr (.inl ⟨a5, by omega, by omega⟩)
  · have bound : ∀ (m p : Nat) (v : Int), pl ≤ p → (0 ≤ v ∧ v < pwF (p - pl)) → 0 ≤ dvF c pl m p v ∧ dvF c pl m p v ≤ 9999 := by
      intro m
      induction m with
      | zero =>
        intro p v _ hv
        have := pwF_in (p - pl)
        unfold dvF; omega
      | succ m ih =>
        intro p v hp hv
        unfold dvF
        by_cases z : 48 ≤ c p ∧ c p ≤ 57
        · rw [if_pos z]
          exact ih (p + 1) _ (by omega) (dv_step hp z hv)
        · rw [if_neg z]
          have := pwF_in (p - pl)
          omega
    have b := bound (n - pl) pl 0 (Nat.le_refl _) (by rw [Nat.sub_self]; decide)
    rw [← a5] at b
    by_cases z : 4 < en - pl
    · rw [if_pos z] at a6
      exact .inr (.inr (.inr (.inr a6)))
    · rw [if_neg z] at a6
      exact .inr (.inr (.inl ⟨a6, b⟩))
  · exact .inr (.inr (.inr (.inl a6)))
theorem PX.kd (h : PX c n k T q i σ τ) : (σ 146 i = 0 ∧ i = T) ∨ (σ 146 i = 1 ∧ i < T ∧ 0 ≤ σ 147 i ∧ σ 147 i < (wids k).length) ∨ (σ 146 i = 2 ∧ i < T ∧ 0 ≤ σ 147 i ∧ σ 147 i ≤ 9999) ∨ (σ 146 i = 3 ∧ i < T) ∨ (σ 146 i = 4 ∧ i < T) := by
  obtain ⟨⟨t1, t2, t3, t4⟩, ⟨a1, a2, a3⟩, -⟩ := h
  obtain ⟨pl, p1, p2, p3, p4⟩ := t2 i a3
  have lt : σ 146 i ≠ 0 → i < T := fun z => by
    rcases Nat.lt_or_ge i T with y | y
    · exact y
    · rw [show i = T by omega] at z; exact absurd t3 z
  rcases TKN_kd p2 with y | y | y | y | y
  · refine .inl ⟨y.1, ?_⟩
    rcases Nat.lt_or_ge i T with x | x
    · exact absurd y.1 (p4 x)
    · omega
  · exact .inr (.inl ⟨y.1, lt (by rw [y.1]; decide), y.2⟩)
  · exact .inr (.inr (.inl ⟨y.1, lt (by rw [y.1]; decide), y.2⟩))
  · exact .inr (.inr (.inr (.inl ⟨y, lt (by rw [y]; decide)⟩)))
  · exact .inr (.inr (.inr (.inr ⟨y, lt (by rw [y]; decide)⟩)))
theorem PX.i4 (h : PX c n k T q i σ τ) : i ≤ T ∧ T ≤ 400 := ⟨h.2.1.2.2, h.1.2.2.2⟩
/-- both go on -/
theorem PX.adv (h : PX c n k T q i σ τ) : ∃ σ' τ', Re_advance σ = some σ' ∧ Mo_next0 τ = some τ' ∧ PX c n k T q (if i < T then i + 1 else T) σ' τ' ∧ (∀ c, c ≠ 141 → σ' c = σ c) ∧ (∀ j, j ≠ 9 → σ' 141 j = σ 141 j) ∧ (∀ c, c ≠ 172 → τ' c = τ c) ∧ ∀ j, j ≠ 17 → j ≠ 18 → j ≠ 19 → j ≠ 20 → τ' 172 j = τ 172 j := by
  have h0 := h
  obtain ⟨⟨t1, t2, t3, t4⟩, ⟨a1, a2, a3⟩, ⟨b1', b2', b3', b4'⟩, d1, d2, d3, d4⟩ := h
  obtain ⟨pl, p1, p2, p3, p4⟩ := t2 i a3
  have te := TKN_en p2 p3
  obtain ⟨τ', kd, vl, pl', en, m1, m2, m3, m4, m5, m6, m7, m8⟩ := nxM (τ := τ) b4' b1' b3' d1 te.2.2.1
  rw [b2'] at m2
  have okT' : okT n τ' := ⟨by rw [m7 16 (by decide) (by decide) (by decide) (by decide)]; exact b1'.1, b1'.2.1, by rw [m8 180 (by decide)]; exact b1'.2.2⟩
  by_cases z : i < T
  · rw [if_pos z]
    obtain ⟨pl2, r1, r2, r3, r4⟩ := t2 (i + 1) (by omega)
    obtain ⟨u1, u2, u3, u4⟩ := TKN_u m2 r2
    have ec : ∀ c, c ≠ 141 → su σ 141 9 ((i : Int) + 1) c = σ c := fun c hc => su_c hc
    refine ⟨su σ 141 9 ((i : Int) + 1), τ', ?_, m1, ⟨⟨t1, fun j hj => ?_, by rw [ec _ (by decide)]; exact t3, t4⟩, ⟨by rw [su_s, up_n (by decide)]; exact a1, by rw [su_s, up_a]; rfl, by omega⟩, ⟨okT', by rw [m8 180 (by decide)]; exact b2', by rw [m7 12 (by decide) (by decide) (by decide) (by decide)]; exact b3', b4'⟩, ?_, ?_, ?_, ?_⟩, ec, fun j hj => by rw [su_s, up_n hj], m8, m7⟩
    · unfold Re_advance
      rw [a2, a1, wr_q (by omega) (by omega), if_pos (by omega), wr_q (by omega) (by omega), ll_q]
    · rw [ec _ (by decide), ec _ (by decide), ec _ (by decide)]; exact t2 j hj
    · rw [m3, u4]
    · rw [ec _ (by decide), ec _ (by decide), m4, u1, u2]
    · rw [ec _ (by decide), m5, u3, r1]
    · rw [ec _ (by decide), ec _ (by decide), su_s, up_n (by decide), up_n (by decide)]
      refine ⟨fun y => ?_, d4.2⟩
      rw [m6 (by rw [u1]; exact y), u2]
  · rw [if_neg z]
    have e : i = T := by omega
    subst e
    have k0 : σ 146 i = 0 := t3
    rcases TKN_kd p2 with y | y | y | y | y
    · have hqn : q (i + 1) = n := y.2.2.2
      have mE : kd = 0 ∧ vl = 0 ∧ pl' = n ∧ en = n := by
        have tE : TKN c n k (q (i + 1)) 0 0 n n := ⟨by rw [hqn, Nat.sub_self]; rfl, .inl ⟨rfl, rfl, rfl, rfl⟩⟩
        obtain ⟨u1, u2, u3, u4⟩ := TKN_u m2 tE
        exact ⟨u1, u2, u3, u4⟩
      refine ⟨σ, τ', ?_, m1, ⟨⟨t1, t2, t3, t4⟩, ⟨a1, a2, a3⟩, ⟨okT', by rw [m8 180 (by decide)]; exact b2', by rw [m7 12 (by decide) (by decide) (by decide) (by decide)]; exact b3', b4'⟩, ?_, ?_, ?_, ?_⟩, fun _ _ => rfl, fun _ _ => rfl, m8, m7⟩
      · unfold Re_advance
        rw [a2, a1, wr_q (by omega) (by omega), if_neg (by omega)]
      · rw [m3, mE.2.2.2, hqn]
      · rw [m4, mE.1, mE.2.1, y.1, y.2.1]
      · rw [m5, mE.2.2.1, p1, y.2.2.1]
      · refine ⟨fun x => ?_, d4.2⟩
        rw [k0] at x; cases x
    · rw [k0] at y; omega
    · rw [k0] at y; omega
    · rw [k0] at y; omega
    · rw [k0] at y; omega
theorem PX.ref (h : PX c n k T q i σ τ) (a : Int) : ∃ σ' τ', Re_refuse a σ = some (0, σ') ∧ Mo_bad a τ = some (0, τ') ∧ FP σ σ' τ τ' ∧ FAIL σ' τ' := by
  have b4 := h.i4
  obtain ⟨-, ⟨a1, a2, a3⟩, -, d1, d2, d3, d4⟩ := h
  refine ⟨su (su σ 141 2 a) 141 3 (σ 148 i), su (su τ 172 21 a) 172 22 (τ 172 19), ?_, ?_, ⟨fun c a _ _ _ => by rw [su_c a, su_c a], fun j a b _ => by rw [su_s, up_n b, su_s, up_n a], fun c a _ _ _ => by rw [su_c a, su_c a], fun j a => by rw [su_s, up_n (by omega), su_s, up_n (by omega)]⟩, ?_, ?_⟩
  · unfold Re_refuse
    have e : su σ 141 2 a 141 9 = i := by rw [su_s, up_n (by decide)]; exact a2
    rw [ll_q, e, ix_q (by omega) (by omega), ll_q, Int.toNat_natCast, su_c (show (148 : Nat) ≠ 141 by decide)]
  · unfold Mo_bad
    rw [ll_q, ll_q, su_s, up_n (show (19 : Nat) ≠ 21 by decide)]
  · rw [su_s, up_n (by decide), su_s, up_a, su_s, up_n (by decide), su_s, up_a]
  · rw [su_s, up_a, su_s, up_a, d3]
/-- a sign stands here -/
theorem PX.sgn (h : PX c n k T q i σ τ) {x : Int} (hx : isG x) : ∃ r, Re_isSign x σ = some r ∧ ((r = 1 ∧ τ 172 18 = 100 + x ∧ i < T) ∨ (r = 0 ∧ τ 172 18 ≠ 100 + x)) := by
  have b4 := h.i4
  have kd := h.kd
  obtain ⟨-, ⟨a1, a2, a3⟩, ⟨-, -, -, b4'⟩, d1, d2, d3, d4⟩ := h
  unfold Re_isSign
  rw [a2, ix_q (by omega) (by omega), Int.toNat_natCast, ix_q (by omega) (by omega), d2]
  have hx' : x = 59 ∨ x = 43 ∨ x = 45 ∨ x = 42 ∨ x = 47 ∨ x = 40 ∨ x = 41 ∨ x = 60 ∨ x = 61 ∨ x = 62 := hx
  have tw := tkW_in b4' (σ 147 i)
  unfold tkc
  rcases kd with ⟨y, -⟩ | ⟨y, -, -⟩ | ⟨y, -, -⟩ | ⟨y, yT⟩ | ⟨y, -⟩
  · rw [y, if_neg (by decide), if_pos rfl]; exact ⟨0, rfl, .inr ⟨rfl, by omega⟩⟩
  · rw [y, if_neg (by decide), if_neg (by decide), if_pos rfl]; exact ⟨0, rfl, .inr ⟨rfl, by omega⟩⟩
  · rw [y, if_neg (by decide), if_neg (by decide), if_neg (by decide), if_pos rfl]; exact ⟨0, rfl, .inr ⟨rfl, by omega⟩⟩
  · rw [y, if_pos (show (3 : Int) = 3 from rfl), if_neg (show ¬ (3 : Int) = 0 by decide), if_neg (show ¬ (3 : Int) = 1 by decide), if_neg (show ¬ (3 : Int) = 2 by decide), if_pos (show (3 : Int) = 3 from rfl)]
    unfold sgF
    by_cases z : σ 147 i = x
    · rw [if_pos z, if_pos (by rw [z]; exact hx')]
      exact ⟨1, rfl, .inl ⟨rfl, by omega, yT⟩⟩
    · rw [if_neg z]
      refine ⟨0, rfl, .inr ⟨rfl, ?_⟩⟩
      split <;> omega
  · rw [y, if_neg (by decide), if_neg (by decide), if_neg (by decide), if_neg (by decide), if_neg (by decide)]; exact ⟨0, rfl, .inr ⟨rfl, by omega⟩⟩
theorem tkT_1 : ∀ k, k < 4 → ∀ j, j < (wids k).length → ∀ w, w < (wids k).length → (tkT k).getD j 1 = (tkT k).getD w 1 → j = w := by decide +kernel
theorem tkT_2 : ∀ k, k < 4 → ∀ w, w < (wids k).length → 3 ≤ (tkT k).getD w 1 ∧ (tkT k).getD w 1 ≤ 50 := by decide +kernel
/-- a word stands here -/
theorem PX.wrd (h : PX c n k T q i σ τ) {w : Nat} (hw : w < (wids k).length) : ∃ r, Re_isWord (w : Int) σ = some r ∧ ((r = 1 ∧ τ 172 18 = (tkT k).getD w 1 ∧ σ 146 i = 1 ∧ σ 147 i = w ∧ i < T) ∨ (r = 0 ∧ τ 172 18 ≠ (tkT k).getD w 1 ∧ ¬ (σ 146 i = 1 ∧ σ 147 i = w))) := by
  have b4 := h.i4
  have kd := h.kd
  obtain ⟨-, ⟨a1, a2, a3⟩, ⟨-, -, -, b4'⟩, d1, d2, d3, d4⟩ := h
  have t2 := tkT_2 k b4' w hw
  unfold Re_isWord
  rw [a2, ix_q (by omega) (by omega), Int.toNat_natCast, ix_q (by omega) (by omega), d2]
  unfold tkc
  rcases kd with ⟨y, -⟩ | ⟨y, yT, y1, y2⟩ | ⟨y, -, -⟩ | ⟨y, -⟩ | ⟨y, -⟩
  · rw [y, if_neg (by decide), if_pos rfl]; exact ⟨0, rfl, .inr ⟨rfl, by omega, by omega⟩⟩
  · rw [y, if_pos (show (1 : Int) = 1 from rfl), if_neg (show ¬ (1 : Int) = 0 by decide), if_pos (show (1 : Int) = 1 from rfl)]
    unfold tkW
    rw [if_neg (show ¬ σ 147 i = -1 by omega)]
    by_cases z : σ 147 i = w
    · rw [if_pos z, z, Int.toNat_natCast]
      exact ⟨1, rfl, .inl ⟨rfl, rfl, rfl, rfl, yT⟩⟩
    · rw [if_neg z]
      refine ⟨0, rfl, .inr ⟨rfl, fun e => ?_, fun e => z e.2⟩⟩
      have := tkT_1 k b4' (σ 147 i).toNat (by omega) w hw e
      omega
  · rw [y, if_neg (by decide), if_neg (by decide), if_neg (by decide), if_pos rfl]; exact ⟨0, rfl, .inr ⟨rfl, by omega, by omega⟩⟩
  · rw [y, if_neg (by decide), if_neg (by decide), if_neg (by decide), if_neg (by decide), if_pos rfl]
    refine ⟨0, rfl, .inr ⟨rfl, ?_, by omega⟩⟩
    unfold sgF
    split <;> omega
  · rw [y, if_neg (by decide), if_neg (by decide), if_neg (by decide), if_neg (by decide), if_neg (by decide)]; exact ⟨0, rfl, .inr ⟨rfl, by omega, by omega⟩⟩
/-- a number stands here -/
theorem PX.num (h : PX c n k T q i σ τ) : (σ 146 i = 2 ∧ τ 172 18 = 2 ∧ τ 172 20 = σ 147 i ∧ i < T ∧ 0 ≤ σ 147 i ∧ σ 147 i ≤ 9999) ∨ (σ 146 i ≠ 2 ∧ τ 172 18 ≠ 2) := by
  have kd := h.kd
  obtain ⟨-, ⟨a1, a2, a3⟩, ⟨-, -, -, b4'⟩, d1, d2, d3, d4⟩ := h
  have tw := tkW_in b4' (σ 147 i)
  rw [d2]
  unfold tkc
  rcases kd with ⟨y, -⟩ | ⟨y, yT, y1, y2⟩ | ⟨y, yT, y1, y2⟩ | ⟨y, -⟩ | ⟨y, -⟩
  · rw [y, if_pos rfl]; right; omega
  · rw [y, if_neg (by decide), if_pos rfl]; right; omega
  · have := d4.1 y
    rw [y, if_neg (by decide), if_neg (by decide), if_pos rfl]; left; exact ⟨rfl, rfl, this, yT, y1, y2⟩
  · rw [y, if_neg (by decide), if_neg (by decide), if_neg (by decide), if_pos rfl]
    refine .inr ⟨by decide, ?_⟩
    unfold sgF
    split <;> omega
  · rw [y, if_neg (by decide), if_neg (by decide), if_neg (by decide), if_neg (by decide)]; right; omega
end Parse
