/-! a new message, on both sides -/
def nwF (m one l k s to : Int) (f : Nat) : Int := match f with
  | 0 => one | 1 => m | 2 => -1 | 3 => l | 4 => k | 5 => s | 6 => to | 7 => 0 | _ => -1
def pt9 (τ : Sg) (n : Nat) (v : Nat → Int) : Sg := su (su (su (su (su (su (su (su (su τ 173 (8 + 9 * n + 0) (v 0)) 173 (8 + 9 * n + 1) (v 1)) 173 (8 + 9 * n + 2) (v 2)) 173 (8 + 9 * n + 3) (v 3)) 173 (8 + 9 * n + 4) (v 4)) 173 (8 + 9 * n + 5) (v 5)) 173 (8 + 9 * n + 6) (v 6)) 173 (8 + 9 * n + 7) (v 7)) 173 (8 + 9 * n + 8) (v 8)
def ad9 (σ : Sg) (t n : Nat) (v : Nat → Int) : Sg := su (su (su (su (su (su (su (su (su σ (t + 4) n (v 0)) (t + 5) n (v 1)) (t + 6) n (v 2)) (t + 7) n (v 3)) (t + 8) n (v 4)) (t + 9) n (v 5)) (t + 10) n (v 6)) (t + 11) n (v 7)) (t + 12) n (v 8)
section Adds
variable {t : Nat} {th : Int} {σ τ : Sg}
theorem pt9_c {n : Nat} {v : Nat → Int} {c : Nat} (h : c ≠ 173) : pt9 τ n v c = τ c := by unfold pt9; rw [su_c h, su_c h, su_c h, su_c h, su_c h, su_c h, su_c h, su_c h, su_c h]
theorem pt9_o {n : Nat} {v : Nat → Int} {j : Nat} (h : j < 8 + 9 * n ∨ 8 + 9 * n + 9 ≤ j) : pt9 τ n v 173 j = τ 173 j := by
  unfold pt9
  rw [su_s, up_n (by omega), su_s, up_n (by omega), su_s, up_n (by omega), su_s, up_n (by omega), su_s, up_n (by omega), su_s, up_n (by omega), su_s, up_n (by omega), su_s, up_n (by omega), su_s, up_n (by omega)]
theorem pt9_m {n : Nat} {v : Nat → Int} {f : Nat} (h : f < 9) : mW (pt9 τ n v 173) n f = v f := by
  unfold pt9 mW
  rw [su_s]
  by_cases e8 : f = 8
  · rw [e8, up_a]
  rw [up_n (by omega), su_s]
  by_cases e7 : f = 7
  · rw [e7, up_a]
  rw [up_n (by omega), su_s]
  by_cases e6 : f = 6
  · rw [e6, up_a]
  rw [up_n (by omega), su_s]
  by_cases e5 : f = 5
  · rw [e5, up_a]
  rw [up_n (by omega), su_s]
  by_cases e4 : f = 4
  · rw [e4, up_a]
  rw [up_n (by omega), su_s]
  by_cases e3 : f = 3
  · rw [e3, up_a]
  rw [up_n (by omega), su_s]
  by_cases e2 : f = 2
  · rw [e2, up_a]
  rw [up_n (by omega), su_s]
  by_cases e1 : f = 1
  · rw [e1, up_a]
  rw [up_n (by omega), su_s]
  rw [show f = 0 by omega, up_a]
theorem ad9_c {n : Nat} {v : Nat → Int} {c : Nat} (h : c < t + 4 ∨ t + 13 ≤ c) : ad9 σ t n v c = σ c := by
  unfold ad9
  rw [su_c (by omega), su_c (by omega), su_c (by omega), su_c (by omega), su_c (by omega), su_c (by omega), su_c (by omega), su_c (by omega), su_c (by omega)]
theorem ad9_m {n : Nat} {v : Nat → Int} {f : Nat} (h : f < 9) : ad9 σ t n v (t + 4 + f) = up (σ (t + 4 + f)) n (v f) := by
  unfold ad9
  by_cases e8 : f = 8
  · rw [e8, show t + 4 + 8 = t + 12 by omega, su_s, su_c (by omega), su_c (by omega), su_c (by omega), su_c (by omega), su_c (by omega), su_c (by omega), su_c (by omega), su_c (by omega)]
  rw [su_c (by omega)]
  by_cases e7 : f = 7
  · rw [e7, show t + 4 + 7 = t + 11 by omega, su_s, su_c (by omega), su_c (by omega), su_c (by omega), su_c (by omega), su_c (by omega), su_c (by omega), su_c (by omega)]
  rw [su_c (by omega)]
  by_cases e6 : f = 6
  · rw [e6, show t + 4 + 6 = t + 10 by omega, su_s, su_c (by omega), su_c (by omega), su_c (by omega), su_c (by omega), su_c (by omega), su_c (by omega)]
  rw [su_c (by omega)]
  by_cases e5 : f = 5
  · rw [e5, show t + 4 + 5 = t + 9 by omega, su_s, su_c (by omega), su_c (by omega), su_c (by omega), su_c (by omega), su_c (by omega)]
  rw [su_c (by omega)]
  by_cases e4 : f = 4
  · rw [e4, show t + 4 + 4 = t + 8 by omega, su_s, su_c (by omega), su_c (by omega), su_c (by omega), su_c (by omega)]
  rw [su_c (by omega)]
  by_cases e3 : f = 3
  · rw [e3, show t + 4 + 3 = t + 7 by omega, su_s, su_c (by omega), su_c (by omega), su_c (by omega)]
  rw [su_c (by omega)]
  by_cases e2 : f = 2
  · rw [e2, show t + 4 + 2 = t + 6 by omega, su_s, su_c (by omega), su_c (by omega)]
  rw [su_c (by omega)]
  by_cases e1 : f = 1
  · rw [e1, show t + 4 + 1 = t + 5 by omega, su_s, su_c (by omega)]
  rw [su_c (by omega), show f = 0 by omega, show t + 4 + 0 = t + 4 by omega, su_s]
theorem puts_q {i f : Nat} {v : Int} (hi : i < 60) (hf : f < 9) : Mo_puts0 (i : Int) (f : Int) v τ = some (su τ 173 (8 + 9 * i + f) v) := by
  unfold Mo_puts0
  rw [ix_q (by omega) (by omega), ll_q, show ((8 + 9 * (i : Int)) + (f : Int)).toNat = 8 + 9 * i + f by omega]
theorem comesQ {n : Nat} (hn : τ 173 3 = n) (h60 : n < 60) (one l k s to : Int) : Mo_comes one l k s to τ = some ((n : Int), su (pt9 τ n (nwF (τ 173 0) one l k s to)) 173 3 ((n : Int) + 1)) := by
  unfold Mo_comes
  rw [hn, ll_q]
  rw [show Mo_puts0 (n : Int) 0 one τ = _ from puts_q (f := 0) h60 (by decide), b1_q]
  rw [show su τ 173 (8 + 9 * n + 0) one 173 0 = τ 173 0 by rw [su_s, up_n (by omega)]]
  rw [show Mo_puts0 (n : Int) 1 (τ 173 0) (su τ 173 (8 + 9 * n + 0) one) = _ from puts_q (f := 1) h60 (by decide), b1_q]
  rw [show Mo_puts0 (n : Int) 2 (-1) _ = _ from puts_q (f := 2) h60 (by decide), b1_q]
  rw [show Mo_puts0 (n : Int) 3 l _ = _ from puts_q (f := 3) h60 (by decide), b1_q]
  rw [show Mo_puts0 (n : Int) 4 k _ = _ from puts_q (f := 4) h60 (by decide), b1_q]
  rw [show Mo_puts0 (n : Int) 5 s _ = _ from puts_q (f := 5) h60 (by decide), b1_q]
  rw [show Mo_puts0 (n : Int) 6 to _ = _ from puts_q (f := 6) h60 (by decide), b1_q]
  rw [show Mo_puts0 (n : Int) 7 0 _ = _ from puts_q (f := 7) h60 (by decide), b1_q]
  rw [show Mo_puts0 (n : Int) 8 (-1) _ = _ from puts_q (f := 8) h60 (by decide), b1_q]
  have e : pt9 τ n (nwF (τ 173 0) one l k s to) 173 3 = n := by rw [pt9_o (by omega)]; exact hn
  show ll (su (pt9 τ n (nwF (τ 173 0) one l k s to)) 173 3 (wr (pt9 τ n (nwF (τ 173 0) one l k s to) 173 3 + 1))) _ = _
  rw [e, wr_q (by omega) (by omega), ll_q]
theorem addQ {n : Nat} (hn : σ t 2 = n) (h60 : n < 60) (h4 : -1000 ≤ σ t 4 ∧ σ t 4 ≤ 1000) (one l k s to : Int) : Ta_add t one l k s to σ = some ((n : Int), su (su (ad9 σ t n (nwF (σ t 0) one l k s to)) t 2 ((n : Int) + 1)) t 4 (σ t 4 + 1)) := by
  unfold Ta_add Ta_isFull
  rw [hn, if_pos (by omega), b1_q, i00, ll_q, ix_q (by omega) (by omega), Int.toNat_natCast, ll_q, ix_q (by omega) (by omega), ll_q, ix_q (by omega) (by omega), ll_q, ix_q (by omega) (by omega), ll_q, ix_q (by omega) (by omega), ll_q, ix_q (by omega) (by omega), ll_q, ix_q (by omega) (by omega), ll_q, ix_q (by omega) (by omega), ll_q, ix_q (by omega) (by omega), ll_q]
  rw [show su σ (t + 4) n one t = σ t from su_c (by omega)]
  have e : ad9 σ t n (nwF (σ t 0) one l k s to) t = σ t := ad9_c (by omega)
  show ll (su (ad9 σ t n (nwF (σ t 0) one l k s to)) t 2 (wr (ad9 σ t n (nwF (σ t 0) one l k s to) t 2 + 1))) _ = _
  rw [e, hn, wr_q (by omega) (by omega), ll_q, show su (ad9 σ t n (nwF (σ t 0) one l k s to)) t 2 ((n : Int) + 1) t 4 = σ t 4 by rw [su_s, up_n (by decide), e], wr_q (by omega) (by omega), ll_q]
/-- a new message -/
theorem CR.add (h : CR t th σ τ) {n : Nat} (hn : τ 173 3 = n) (h60 : n < 60) {one l k s to : Int} (ho : one = 0 ∨ one = 1) (hl : 1 ≤ l ∧ l ≤ 99) (hk : 0 ≤ k ∧ k ≤ 9) (hs : s = 0 ∨ s = 1) (ht : to = -1 ∨ ∃ i : Nat, i < n ∧ to = i ∧ mW (τ 173) i 0 = 1 - one ∧ mW (τ 173) i 1 < τ 173 0) :
    ∃ σ' τ', Ta_add t one l k s to σ = some ((n : Int), σ') ∧ Mo_comes one l k s to τ = some ((n : Int), τ') ∧ CR t th σ' τ' ∧ FR t σ σ' τ τ' ∧ (∀ j, j < 8 → j ≠ 3 → τ' 173 j = τ 173 j) ∧ τ' 173 3 = n + 1 ∧ (∀ i f, i < n → f < 9 → mW (τ' 173) i f = mW (τ 173) i f) ∧ (∀ f, f < 9 → mW (τ' 173) n f = nwF (τ 173 0) one l k s to f) ∧ (∀ c, c ≠ 173 → τ' c = τ c) ∧ ∀ c, (c < t ∨ t + 13 ≤ c ∨ c = t + 1 ∨ c = t + 2 ∨ c = t + 3) → σ' c = σ c := by
  have hC := h
  obtain ⟨c1, c2, c3, c4, c5, c6, c7⟩ := h
  have s2 : σ t 2 = n := c3.2.2.1.trans hn
  have s0 : σ t 0 = τ 173 0 := c3.1
  have s4 : σ t 4 = opn (τ 173) n := by rw [c3.2.2.2.2.1, hn, Int.toNat_natCast]
  have b4 := opn_nn (w := τ 173) n
  have eC := addQ (σ := σ) (t := t) s2 h60 (by omega) one l k s to
  have eM := comesQ (τ := τ) hn h60 one l k s to
  rw [s0] at eC
  have w' : su (pt9 τ n (nwF (τ 173 0) one l k s to)) 173 3 ((n : Int) + 1) 173 = up (pt9 τ n (nwF (τ 173 0) one l k s to) 173) 3 ((n : Int) + 1) := su_s
  have lo : ∀ j, j < 8 → j ≠ 3 → up (pt9 τ n (nwF (τ 173 0) one l k s to) 173) 3 ((n : Int) + 1) j = τ 173 j := fun j h1 h2 => by rw [up_n h2, pt9_o (by omega)]
  have hi : ∀ j, 548 ≤ j → up (pt9 τ n (nwF (τ 173 0) one l k s to) 173) 3 ((n : Int) + 1) j = τ 173 j := fun j h1 => by rw [up_n (by omega), pt9_o (by omega)]
  have mo : ∀ i f, i < n → f < 9 → mW (up (pt9 τ n (nwF (τ 173 0) one l k s to) 173) 3 ((n : Int) + 1)) i f = mW (τ 173) i f := fun i f h1 h2 => by
    rw [mW_low (by decide)]
    exact pt9_o (by omega)
  have mn : ∀ f, f < 9 → mW (up (pt9 τ n (nwF (τ 173 0) one l k s to) 173) 3 ((n : Int) + 1)) n f = nwF (τ 173 0) one l k s to f := fun f h2 => by
    rw [mW_low (by decide)]
    exact pt9_m h2
  have cs : ∀ c, (c < t ∨ t + 13 ≤ c ∨ c = t + 1 ∨ c = t + 2 ∨ c = t + 3) → su (su (ad9 σ t n (nwF (τ 173 0) one l k s to)) t 2 ((n : Int) + 1)) t 4 (σ t 4 + 1) c = σ c := fun c hc => by rw [su_c (by omega), su_c (by omega), ad9_c (by omega)]
  have ct : su (su (ad9 σ t n (nwF (τ 173 0) one l k s to)) t 2 ((n : Int) + 1)) t 4 (σ t 4 + 1) t = up (up (σ t) 2 ((n : Int) + 1)) 4 (σ t 4 + 1) := by rw [su_s, su_s, ad9_c (by omega)]
  have hT : TR t (su (su (ad9 σ t n (nwF (τ 173 0) one l k s to)) t 2 ((n : Int) + 1)) t 4 (σ t 4 + 1)) (up (pt9 τ n (nwF (τ 173 0) one l k s to) 173) 3 ((n : Int) + 1)) :=
    TR.add c3 hn h60 (vals := nwF (τ 173 0) one l k s to) (fun f hf => by rw [su_c (by omega), su_c (by omega), ad9_m hf]) ⟨cs _ (by omega), cs _ (by omega)⟩ (fun j h1 h2 => by rw [ct, up_n h2, up_n h1]) (by rw [ct, up_n (by decide), up_a, s2]) (by rw [ct, up_a]) lo (by rw [up_a, hn]) mn mo rfl rfl rfl
  have hW : WF (up (pt9 τ n (nwF (τ 173 0) one l k s to) 173) 3 ((n : Int) + 1)) :=
    WF.add c4 hn h60 lo (by rw [up_a, hn]) mo (by rw [mn 0 (by decide)]; exact ho) (by rw [mn 1 (by decide)]; rfl) (by rw [mn 2 (by decide)]; rfl) (by rw [mn 3 (by decide)]; exact hl) (by rw [mn 4 (by decide)]; exact hk) (by rw [mn 5 (by decide)]; exact hs) (by rw [mn 6 (by decide), mn 0 (by decide)]; exact ht) (by rw [mn 7 (by decide)]; rfl) (by rw [mn 8 (by decide)]; rfl)
  have eo : ∀ c, c ≠ 173 → su (pt9 τ n (nwF (τ 173 0) one l k s to)) 173 3 ((n : Int) + 1) c = τ c := fun c hc => by rw [su_c hc, pt9_c hc]
  have hCF := hC.talk hT hW w' eo hi (lo 2 (by decide) (by decide)) (fun c hc => cs c (by omega))
  exact ⟨_, _, eC, eM, hCF.1, hCF.2, fun j h1 h2 => by rw [w']; exact lo j h1 h2, by rw [w', up_a], fun i f h1 h2 => by rw [w']; exact mo i f h1 h2, fun f h2 => by rw [w']; exact mn f h2, eo, cs⟩
/-- one takes a message back -/
theorem CR.back (h : CR t th σ τ) {i : Nat} (hi : (i : Int) < τ 173 3) (h2 : mW (τ 173) i 2 = -1) (h7 : mW (τ 173) i 7 = 0) : ∃ σ' τ', Co_withdraw (i : Int) σ = some σ' ∧ Mo_takesBack (i : Int) τ = some τ' ∧ CR t th σ' τ' ∧ FR t σ σ' τ τ' ∧ (∀ j, j < 548 → j ≠ 2 → j ≠ 8 + 9 * i + 7 → τ' 173 j = τ 173 j) ∧ τ' 173 (8 + 9 * i + 7) = 1 ∧ ∀ c, c ≠ 173 → τ' c = τ c := by
  have hC := h
  have htn := h.tn
  have htk := h.tkk
  have htt := h.tt
  obtain ⟨c1, c2, c3, c4, c5, c6, c7⟩ := h
  have b60 := c4.2.2.1
  have s4 : σ t 4 = opn (τ 173) (τ 173 3).toNat := c3.2.2.2.2.1
  have b4 := opn_nn (w := τ 173) (τ 173 3).toNat
  have ct : su (su σ (t + 11) i 1) t 4 (σ t 4 - 1) t = up (σ t) 4 (σ t 4 - 1) := by rw [su_s, su_c (by omega)]
  have hT : TR t (su (su σ (t + 11) i 1) t 4 (σ t 4 - 1)) (up (τ 173) (8 + 9 * i + 7) 1) :=
    TR.fld (f := 7) (o := σ t 4 - 1) (a := σ t 5) c3 (by decide) hi b60.2 (by rw [su_c (by omega), show t + 4 + 7 = t + 11 by omega, su_s]) (fun c h1 h2 h3 => by rw [su_c (by omega), su_c (by omega)]) (fun j h1 h2 => by rw [ct, up_n h1]) (by rw [ct, up_a]) (by rw [ct, up_n (by decide)]) (by
      rw [opn_off (w := τ 173) (w' := up (τ 173) (8 + 9 * i + 7) 1) _ i (by omega) ⟨h2, h7⟩ (fun z => by
        have z2 := z.2
        rw [mW_at] at z2; omega) (fun k hk => ⟨mW_ne (by decide) (by decide) (.inl hk), mW_ne (by decide) (by decide) (.inl hk)⟩), ← s4]) (by
      rw [awt_agr (w := τ 173) _ (fun k _ => mW_ne (by decide) (by decide) (.inr (by decide)))]; exact c3.2.2.2.2.2.1)
  have hW : WF (up (τ 173) (8 + 9 * i + 7) 1) := WF.fld c4 hi (.inr (.inl rfl)) (fun z => by omega) (fun _ => .inr rfl) (fun z => by omega)
  obtain ⟨hC1, hF1⟩ := hC.talk (τ' := su τ 173 (8 + 9 * i + 7) 1) hT hW su_s (fun c hc => su_c hc) (fun j hj => up_n (by omega)) (up_n (by omega)) (fun c hc => by rw [su_c (by omega), su_c (by omega)])
  have s0 : σ (t + 4) i = mW (τ 173) i 0 := (TR.g c3 hi).1
  obtain ⟨σ', τ', n1, n2, n3, n4, n5, n6, n7, n8⟩ := hC1.note 3 (mW (τ 173) i 0) (i : Int)
  refine ⟨σ', τ', ?_, ?_, n3, hF1.trans n4, fun j h1 h2 h3 => by rw [n5 j h1 h2, su_s, up_n h3], by rw [n5 _ (by omega) (by omega), su_s, up_a], fun c hc => by rw [n8 c hc, su_c hc]⟩
  · unfold Co_withdraw
    have g1 : su σ (t + 11) i 1 152 = σ 152 := su_c (by omega)
    have g2 : su σ (t + 11) i 1 t 4 = σ t 4 := by rw [su_c (by omega)]
    have g3 : su (su σ (t + 11) i 1) t 4 (σ t 4 - 1) 152 = σ 152 := by rw [su_c (by omega), g1]
    have g4 : su (su σ (t + 11) i 1) t 4 (σ t 4 - 1) (t + 4) i = mW (τ 173) i 0 := by rw [su_c (by omega), su_c (by omega)]; exact s0
    rw [htn, isT_q htk, ix_q (by omega) (by omega), Int.toNat_natCast, ll_q, g1, htn, isT_q htk, g2, wr_q (by omega) (by omega), ll_q, g3, htn, isT_q htk, ix_q (by omega) (by omega), g4, n1, b1_q]
  · unfold Mo_takesBack
    have g5 : Mo_of0 (i : Int) 0 (su τ 173 (8 + 9 * i + 7) 1) = some (mW (τ 173) i 0) := by
      rw [of_0 (by omega), su_s, mW_ne (by decide) (by decide) (.inr (by decide))]
    rw [show Mo_puts0 (i : Int) 7 1 τ = _ from puts_q (f := 7) (by omega) (by decide), b1_q, g5, b1_q, n2, b1_q]
/-- one says something -/
theorem CR.says (h : CR t th σ τ) {n : Nat} (hn : τ 173 3 = n) (h60 : n < 60) {one l k s : Int} (ho : one = 0 ∨ one = 1) (hl : 1 ≤ l ∧ l ≤ 99) (hk : 0 ≤ k ∧ k ≤ 9) (hs : s = 0 ∨ s = 1) : ∃ σ' τ', Co_utter one l k s σ = some ((n : Int), σ') ∧ Mo_saysNow one l k s τ = some ((n : Int), τ') ∧ CR t th σ' τ' ∧ FR t σ σ' τ τ' ∧ τ' 173 0 = τ 173 0 := by
  obtain ⟨σ1, τ1, a1, a2, a3, a4, a5, -⟩ := h.add hn h60 ho hl hk hs (.inl rfl)
  obtain ⟨σ', τ', n1, n2, n3, n4, n5, n6, n7, n8⟩ := a3.note 0 one (n : Int)
  refine ⟨σ', τ', ?_, ?_, n3, a4.trans n4, by rw [n5 0 (by decide) (by decide), a5 0 (by decide) (by decide)]⟩
  · unfold Co_utter
    rw [h.tn, isT_q h.tkk, a1, b2_q, if_neg (by omega), n1, b1_q]
  · unfold Mo_saysNow
    rw [a2, b2_q, n2, b1_q]
end Adds
