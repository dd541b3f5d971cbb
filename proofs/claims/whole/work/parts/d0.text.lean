/-! text: the beginning, and what stays -/
section TextA
theorem skF_ag {c c' : Nat → Int} : ∀ m p, (∀ j, p ≤ j → j < p + m → c' j = c j) → skF c' m p = skF c m p
  | 0, p, _ => rfl
  | m + 1, p, h => by
    unfold skF
    rw [h p (by omega) (by omega), skF_ag m (p + 1) (fun j a b => h j (by omega) (by omega))]
theorem leF_ag {c c' : Nat → Int} : ∀ m p, (∀ j, p ≤ j → j < p + m → c' j = c j) → leF c' m p = leF c m p
  | 0, p, _ => rfl
  | m + 1, p, h => by
    unfold leF
    rw [h p (by omega) (by omega), leF_ag m (p + 1) (fun j a b => h j (by omega) (by omega))]
theorem dgF_ag {c c' : Nat → Int} : ∀ m p, (∀ j, p ≤ j → j < p + m → c' j = c j) → dgF c' m p = dgF c m p
  | 0, p, _ => rfl
  | m + 1, p, h => by
    unfold dgF
    rw [h p (by omega) (by omega), dgF_ag m (p + 1) (fun j a b => h j (by omega) (by omega))]
theorem dvF_ag {c c' : Nat → Int} {s : Nat} : ∀ m p v, (∀ j, p ≤ j → j < p + m → c' j = c j) → dvF c' s m p v = dvF c s m p v
  | 0, p, v, _ => rfl
  | m + 1, p, v, h => by
    unfold dvF
    rw [h p (by omega) (by omega), dvF_ag m (p + 1) _ (fun j a b => h j (by omega) (by omega))]
theorem seg_ag {c c' : Nat → Int} : ∀ m p, (∀ j, p ≤ j → j < p + m → c' j = c j) → seg c' p m = seg c p m
  | 0, p, _ => rfl
  | m + 1, p, h => by
    unfold seg
    rw [h p (by omega) (by omega), seg_ag m (p + 1) (fun j a b => h j (by omega) (by omega))]
theorem TKN_ag {c c' : Nat → Int} {n k p : Nat} {kd vl : Int} {pl en : Nat} (hp : p ≤ n) (h : TKN c n k p kd vl pl en) (e : ∀ j, j < n → c' j = c j) : TKN c' n k p kd vl pl en := by
  have te := TKN_en h hp
  obtain ⟨h1, h2⟩ := h
  refine ⟨by rw [skF_ag _ _ (fun j a b => e j (by omega))]; exact h1, ?_⟩
  rcases h2 with a | ⟨a1, a2, a3, a4, a5⟩ | ⟨a1, a2, a3, a4, a5, a6⟩ | ⟨a1, a2, a3, a4, a5, a6⟩
  · exact .inl a
  · refine .inr (.inl ⟨a1, by rw [e pl a1]; exact a2, by rw [leF_ag _ _ (fun j a b => e j (by omega))]; exact a3, ?_, a5⟩)
    rw [seg_ag _ _ (fun j a b => e j (by omega))]; exact a4
  · refine .inr (.inr (.inl ⟨a1, by rw [e pl a1]; exact a2, by rw [e pl a1]; exact a3, by rw [dgF_ag _ _ (fun j a b => e j (by omega))]; exact a4, ?_, a6⟩))
    rw [dvF_ag _ _ _ (fun j a b => e j (by omega))]; exact a5
  · exact .inr (.inr (.inr ⟨a1, by rw [e pl a1]; exact a2, by rw [e pl a1]; exact a3, a4, by rw [e pl a1]; exact a5, a6⟩))
variable {σ τ : Sg}
/-- what a text leaves as it was -/
theorem invT (h : Inv σ τ) {σ' τ' : Sg} (hc : ∀ c, c < 17 ∨ (29 ≤ c ∧ c < 61) ∨ (62 ≤ c ∧ c < 141) → σ' c = σ c) (h61 : σ' 61 1 = σ 61 1) (hf : (σ' 61 = σ 61 ∧ τ' 172 4 = τ 172 4) ∨ (σ' 61 2 = 0 ∧ τ' 172 4 = 0)) (h5 : τ' 172 5 = τ 172 5) (h174 : τ' 174 = τ 174) (h175 : τ' 175 = τ 175) (hw : ∀ j, j < 550 ∨ (733 ≤ j ∧ j < 1333) → τ' 173 j = τ 173 j) (hS : WS 1 σ' (τ' 173)) (hR : RD σ' τ') : Inv σ' τ' := by
  obtain ⟨⟨w1, w2, w3, w4, w5⟩, hP, hI, -⟩ := h
  refine ⟨⟨TR.agr w1 w2.2.2.1 (fun k a b _ => hc k (by omega)) (fun j _ hj => hw j (by omega)), WF.agr w2 (fun j _ hj => hw j (by omega)), by rw [hw 0 (by omega)]; exact w3, hS, BK.agr w5 w2.2.1 (hc 15 (by omega)) (hw 2 (by omega)) (fun j a b => hw j (by omega))⟩, ?_, ?_, hR⟩
  · rcases hf with ⟨f1, f2⟩ | ⟨f1, f2⟩
    · refine PS.agr hP (fun k a b => ?_) f2 h175 (by rw [hw 2 (by omega)]; exact Int.le_refl _) (fun j hj => hw _ (by omega))
      by_cases e : k = 61
      · rw [e]; exact f1
      · exact hc k (by omega)
    · exact PS.none f1 f2 (by rw [h61]; exact hP.2.2.1)
  · exact IM.agr hI (by rw [hc 0 (by omega)]) (fun k a b => hc k (by omega)) h5 h174
theorem Inv.WS1 (h : Inv σ τ) : WS 1 σ (τ 173) := h.1.2.2.2.1
/-- the class cuts -/
theorem txC {a : Int} (h : Inv σ τ) {k : Nat} (hk : k < 4) (hw : Re_wordsOf a = some k) : ∃ n σ1 T q, n ≤ 400 ∧ σ 141 1 = ((n : Nat) : Int) ∧ Re_cutTokens a σ = some σ1 ∧ TOK (σ 145) n k σ1 T q ∧ σ1 141 8 = (T : Int) + 1 ∧ σ1 141 1 = 0 ∧ σ1 141 2 = 0 ∧ σ1 141 3 = -1 ∧ σ1 141 9 = 0 ∧ ∀ x, x ≠ 141 → x ≠ 146 → x ≠ 147 → x ≠ 148 → σ1 x = σ x := by
  obtain ⟨r1, r2, -⟩ := h.2.2.2
  obtain ⟨n, hn⟩ := Int.eq_ofNat_of_zero_le r2.1
  have hn : τ 172 16 = (n : Int) := hn
  obtain ⟨σ7, e7⟩ : ∃ x, x = su (su (su (su (su σ 141 1 0) 141 2 0) 141 3 (-1)) 141 8 0) 141 9 0 := ⟨_, rfl⟩
  have o7 : ∀ x, x ≠ 141 → σ7 x = σ x := fun x hx => by rw [e7, su_c hx, su_c hx, su_c hx, su_c hx, su_c hx]
  obtain ⟨σ1, T, q, g1, g2, g3, g4, g5⟩ := cuT (n := n) (k := k) (by omega) hk (c := σ 145) n 0 0 0 (fun _ => 0) σ7 (by omega) (by omega) (o7 145 (by decide)) (by rw [e7, su_s, up_n (by decide), su_s, up_a]; rfl) (by omega) rfl (Nat.le_refl _) rfl (fun j hj => (by omega))
  refine ⟨n, σ1, T, q, by omega, by rw [r1]; exact hn, ?_, g2, g3, ?_, ?_, ?_, ?_, fun x a b d e => by rw [g4 x a b d e, o7 x a]⟩
  · unfold Re_cutTokens
    rw [hw, b1_q, ll_q, ll_q, ll_q, ll_q, ll_q, ll_q, ← e7, r1, hn]
    exact g1
  · rw [g5 1 (by decide), e7, su_s, up_n (by decide), su_s, up_n (by decide), su_s, up_n (by decide), su_s, up_n (by decide), su_s, up_a]
  · rw [g5 2 (by decide), e7, su_s, up_n (by decide), su_s, up_n (by decide), su_s, up_n (by decide), su_s, up_a]
  · rw [g5 3 (by decide), e7, su_s, up_n (by decide), su_s, up_n (by decide), su_s, up_a]
  · rw [g5 9 (by decide), e7, su_s, up_a]
/-- no such text -/
theorem txO {a : Int} (h : Inv σ τ) (ha : ¬ (0 ≤ a ∧ a ≤ 3)) : Same2 (Td_text a σ) (Mo_text a τ) := by
  have hw : Re_wordsOf a = some 3 := by
    unfold Re_wordsOf
    rw [if_neg (by omega), if_neg (by omega), if_neg (by omega)]
  obtain ⟨n, σ1, T, q, t1, t2, t3, t4, t5, t6, t7, t8, t9, t10⟩ := txC h (k := 3) (by decide) hw
  unfold Td_text Mo_text
  rw [t3, b1_q, within_q, isIn_q, if_neg ha, b1_q, i00, ll_q, ll_q, b1_q, i00, ll_q]
  refine ⟨-1, σ1, su (su (su τ 172 23 0) 172 25 (-1)) 172 16 0, rfl, rfl, ?_⟩
  have e173 : su (su (su τ 172 23 0) 172 25 (-1)) 172 16 0 173 = τ 173 := by rw [su_c (by decide), su_c (by decide), su_c (by decide)]
  refine invT h (fun c hc => t10 c (by omega) (by omega) (by omega) (by omega)) (by rw [t10 61 (by decide) (by decide) (by decide) (by decide)]) (.inl ⟨t10 61 (by decide) (by decide) (by decide) (by decide), by rw [su_s, up_n (by decide), su_s, up_n (by decide), su_s, up_n (by decide)]⟩) (by rw [su_s, up_n (by decide), su_s, up_n (by decide), su_s, up_n (by decide)]) (by rw [su_c (by decide), su_c (by decide), su_c (by decide)]) (by rw [su_c (by decide), su_c (by decide), su_c (by decide)]) (fun j _ => by rw [e173]) ?_ ?_
  · rw [e173]
    exact WS.agr h.WS1 (fun _ _ _ => rfl) (fun _ _ _ => rfl) (fun k hk => t10 k (by omega) (by omega) (by omega) (by omega)) (by rw [t10 1 (by decide) (by decide) (by decide) (by decide)])
  · refine ⟨?_, ?_, fun j hj => ?_, ?_, ?_⟩
    · rw [t6, su_s, up_a]
    · rw [su_s, up_a]; omega
    · rw [su_s, up_a] at hj; omega
    · rw [t7, su_s, up_n (by decide), su_s, up_n (by decide), su_s, up_a]
    · rw [t8, su_s, up_n (by decide), su_s, up_a]
/-- both stand at the first token -/
theorem txB {k : Nat} (h : Inv σ τ) (hk : k < 4) : ∃ n σ1 T q τ9, Re_cutTokens (k : Int) σ = some σ1 ∧ Mo_next0 (su (su (su (su (su τ 172 23 0) 172 25 (-1)) 172 21 0) 172 17 0) 172 12 (k : Int)) = some τ9 ∧ PX (τ 180) n k T q 0 σ1 τ9 ∧ σ1 141 1 = 0 ∧ (∀ x, x ≠ 141 → x ≠ 146 → x ≠ 147 → x ≠ 148 → σ1 x = σ x) ∧ (∀ c, c ≠ 172 → τ9 c = τ c) ∧ τ9 172 23 = 0 ∧ τ9 172 25 = -1 ∧ ∀ j, j < 12 ∨ j = 16 → τ9 172 j = τ 172 j := by
  have hw : Re_wordsOf (k : Int) = some k := by
    unfold Re_wordsOf
    have : k = 0 ∨ k = 1 ∨ k = 2 ∨ k = 3 := by omega
    rcases this with e | e | e | e <;> subst e <;> decide
  obtain ⟨n, σ1, T, q, t1, t2, t3, t4, t5, t6, t7, t8, t9, t10⟩ := txC h hk hw
  obtain ⟨r1, r2, r3, -⟩ := h.2.2.2
  have hn : τ 172 16 = (n : Int) := by rw [← r1]; exact t2
  obtain ⟨τ8, e8⟩ : ∃ x, x = su (su (su (su (su τ 172 23 0) 172 25 (-1)) 172 21 0) 172 17 0) 172 12 (k : Int) := ⟨_, rfl⟩
  have o8 : ∀ c, c ≠ 172 → τ8 c = τ c := fun c hc => by rw [e8, su_c hc, su_c hc, su_c hc, su_c hc, su_c hc]
  have j8 : ∀ j, j ≠ 12 → j ≠ 17 → j ≠ 21 → j ≠ 25 → j ≠ 23 → τ8 172 j = τ 172 j := fun j a b c d e => by rw [e8, su_s, up_n a, su_s, up_n b, su_s, up_n c, su_s, up_n d, su_s, up_n e]
  have ok8 : okT n τ8 := ⟨by rw [j8 16 (by decide) (by decide) (by decide) (by decide) (by decide)]; exact hn, t1, fun j hj => by rw [o8 180 (by decide)]; exact (r3 j (by omega)).2⟩
  obtain ⟨τ9, kd, vl, pl, en, m1, m2, m3, m4, m5, m6, m7, m8⟩ := nxM (τ := τ8) hk ok8 (by rw [e8, su_s, up_a]) (p := 0) (by rw [e8, su_s, up_n (by decide), su_s, up_a]; rfl) (by omega)
  rw [o8 180 (by decide)] at m2
  have eqc : ∀ j, j < n → τ 180 j = σ 145 j := fun j hj => (r3 j (by omega)).1.symm
  obtain ⟨k1, k2, k3, k4⟩ := t4
  have tk : TOK (τ 180) n k σ1 T q := ⟨k1, fun j hj => by
    obtain ⟨pl, p1, p2, p3, p4⟩ := k2 j hj
    exact ⟨pl, p1, TKN_ag p3 p2 eqc, p3, p4⟩, k3, k4⟩
  obtain ⟨pl0, p1, p2, p3, p4⟩ := tk.2.1 0 (by omega)
  rw [k1] at p2
  obtain ⟨u1, u2, u3, u4⟩ := TKN_u m2 p2
  refine ⟨n, σ1, T, q, τ9, t3, by rw [← e8]; exact m1, ⟨tk, ⟨t5, by rw [t9]; rfl, by omega⟩, ⟨⟨by rw [m7 16 (by decide) (by decide) (by decide) (by decide)]; exact ok8.1, t1, by rw [m8 180 (by decide)]; exact ok8.2.2⟩, by rw [m8 180 (by decide), o8 180 (by decide)], by rw [m7 12 (by decide) (by decide) (by decide) (by decide), e8, su_s, up_a], hk⟩, by rw [m3, u4], by rw [m4, u1, u2], by rw [m5, u3, p1], fun y => by rw [m6 (by rw [u1]; exact y), u2], t7, t8⟩, t6, t10, fun c hc => by rw [m8 c hc, o8 c hc], ?_, ?_, fun j hj => ?_⟩
  · rw [m7 23 (by decide) (by decide) (by decide) (by decide), e8, su_s, up_n (by decide), su_s, up_n (by decide), su_s, up_n (by decide), su_s, up_n (by decide), su_s, up_a]
  · rw [m7 25 (by decide) (by decide) (by decide) (by decide), e8, su_s, up_n (by decide), su_s, up_n (by decide), su_s, up_n (by decide), su_s, up_a]
  · rw [m7 j (by omega) (by omega) (by omega) (by omega), j8 j (by omega) (by omega) (by omega) (by omega) (by omega)]
end TextA
