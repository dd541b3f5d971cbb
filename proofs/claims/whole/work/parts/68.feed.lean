/-! feed -/
theorem bAnd_mask {x : Int} {m : Nat} (hm : m < 2147483648) : 0 ≤ bAnd x (m : Int) ∧ bAnd x (m : Int) ≤ (m : Int) := by
  have h1 : bAnd x (m : Int) = ((Int32.ofInt x).toBitVec &&& (Int32.ofInt (m : Int)).toBitVec).toInt := rfl
  have h2 : ((Int32.ofInt x).toBitVec &&& (Int32.ofInt (m : Int)).toBitVec).toNat ≤ m := by
    rw [BitVec.toNat_and]
    refine Nat.le_trans Nat.and_le_right ?_
    rw [Int32.toBitVec_ofInt, BitVec.ofInt_natCast, BitVec.toNat_ofNat]
    exact Nat.mod_le _ _
  rw [h1, BitVec.toInt_eq_toNat_of_lt (by omega)]
  omega
section Feed
variable {σ τ : Sg}
def byF (v : Int) (i : Nat) : Int := bAnd (bShr v (24 - 8 * (i : Int))) 255
theorem byF_in (v : Int) (i : Nat) : 0 ≤ byF v i ∧ byF v i ≤ 255 := bAnd_mask (m := 255) (by decide)
/-- the class: so many bytes of a number, the highest first -/
theorem apC (v : Int) : ∀ (m i : Nat) (σ : Sg), i + m = 4 → 0 ≤ σ 141 1 → σ 141 1 + m ≤ 400 → ∃ σ', Re_append_3_w v (24 - 8 * (i : Int)) σ = some σ' ∧ σ' 141 1 = σ 141 1 + m ∧ (∀ j : Nat, σ' 145 j = if σ 141 1 ≤ j ∧ (j : Int) < σ 141 1 + m then byF v (i + (j - (σ 141 1).toNat)) else σ 145 j) ∧ (∀ k, k ≠ 141 → k ≠ 145 → σ' k = σ k) ∧ ∀ j, j ≠ 1 → σ' 141 j = σ 141 j
  | 0, i, σ, hi, h0, h1 => by
    refine ⟨σ, wl_end ?_, by simp, fun j => by rw [if_neg (by omega)], fun _ _ _ => rfl, fun _ _ => rfl⟩
    show Re_append_3_b v (24 - 8 * (i : Int)) σ = _
    unfold Re_append_3_b
    rw [if_pos (by omega)]
  | m + 1, i, σ, hi, h0, h1 => by
    obtain ⟨n, hn⟩ := Int.eq_ofNat_of_zero_le h0
    have step : Re_append_3_b v (24 - 8 * (i : Int)) σ = some (.inl (24 - 8 * ((i + 1 : Nat) : Int), su (su σ 145 n (byF v i)) 141 1 ((n : Int) + 1))) := by
      unfold Re_append_3_b
      rw [if_neg (by omega), if_pos (by omega), ix_q (by omega) (by omega)]
      simp only [ll_q]
      rw [su_c (k' := 141) (by decide), hn, Int.toNat_natCast, wr_q (n := (n : Int) + 1) (by omega) (by omega), wr_q (n := 24 - 8 * (i : Int) + -8) (by omega) (by omega), show 24 - 8 * (i : Int) + -8 = 24 - 8 * ((i + 1 : Nat) : Int) by omega]
      rfl
    have e141 : su (su σ 145 n (byF v i)) 141 1 ((n : Int) + 1) 141 1 = (n : Int) + 1 := by rw [su_s, up_a]
    obtain ⟨σ', g1, g2, g3, g4, g5⟩ := apC v m (i + 1) (su (su σ 145 n (byF v i)) 141 1 ((n : Int) + 1)) (by omega) (by rw [e141]; omega) (by rw [e141]; omega)
    rw [e141] at g2 g3
    refine ⟨σ', ?_, by rw [g2, hn]; omega, fun j => ?_, fun k a b => by rw [g4 k a b, su_c a, su_c b], fun j hj => by rw [g5 j hj, su_s, up_n hj, su_c (by decide)]⟩
    · have e : Re_append_3_w v (24 - 8 * (i : Int)) σ = Re_append_3_w v (24 - 8 * ((i + 1 : Nat) : Int)) (su (su σ 145 n (byF v i)) 141 1 ((n : Int) + 1)) := wl_go step
      rw [e]; exact g1
    · rw [g3 j, su_c (k' := 145) (by decide), su_s, hn]
      by_cases c1 : j = n
      · subst c1
        rw [if_neg (by omega), up_a, if_pos (by omega), Int.toNat_natCast, Nat.sub_self, Nat.add_zero]
      · rw [up_n c1]
        by_cases c2 : (n : Int) + 1 ≤ (j : Int) ∧ (j : Int) < (n : Int) + 1 + (m : Int)
        · rw [if_pos c2, if_pos (by omega), show ((n : Int) + 1).toNat = n + 1 by omega, Int.toNat_natCast, show i + 1 + (j - (n + 1)) = i + (j - n) by omega]
        · rw [if_neg c2, if_neg (by omega)]
theorem appendC (v : Int) (h0 : 0 ≤ σ 141 1) (h1 : σ 141 1 + 4 ≤ 400) : ∃ σ', Re_append v σ = some σ' ∧ σ' 141 1 = σ 141 1 + 4 ∧ (∀ j : Nat, σ' 145 j = if σ 141 1 ≤ j ∧ (j : Int) < σ 141 1 + 4 then byF v (j - (σ 141 1).toNat) else σ 145 j) ∧ (∀ k, k ≠ 141 → k ≠ 145 → σ' k = σ k) ∧ ∀ j, j ≠ 1 → σ' 141 j = σ 141 j := by
  obtain ⟨σ', g1, g2, g3, g4, g5⟩ := apC v 4 0 σ rfl h0 (by omega)
  exact ⟨σ', g1, g2, fun j => by rw [g3 j, Nat.zero_add]; rfl, g4, g5⟩
/-- byte k of the twenty -/
def twF (a b c d e : Int) (k : Nat) : Int := byF (if k < 4 then a else if k < 8 then b else if k < 12 then c else if k < 16 then d else e) (k % 4)
theorem fdM (a b c d e : Int) : ∀ (m i : Nat) (τ : Sg), i + m = 20 → 0 ≤ τ 172 16 → τ 172 16 + m ≤ 400 → ∃ τ', Mo_feed_18_w a b c d e (i : Int) τ = some (τ 172 16 + m, τ') ∧ τ' 172 16 = τ 172 16 + m ∧ (∀ j : Nat, τ' 180 j = if τ 172 16 ≤ j ∧ (j : Int) < τ 172 16 + m then twF a b c d e (i + (j - (τ 172 16).toNat)) else τ 180 j) ∧ (∀ k, k ≠ 172 → k ≠ 180 → τ' k = τ k) ∧ ∀ j, j ≠ 16 → τ' 172 j = τ 172 j
  | 0, i, τ, hi, h0, h1 => by
    refine ⟨τ, wl_end ?_, by simp, fun j => by rw [if_neg (by omega)], fun _ _ _ => rfl, fun _ _ => rfl⟩
    show Mo_feed_18_b a b c d e (i : Int) τ = _
    unfold Mo_feed_18_b
    rw [if_neg (by omega)]; simp
  | m + 1, i, τ, hi, h0, h1 => by
    obtain ⟨n, hn⟩ := Int.eq_ofNat_of_zero_le h0
    have step : Mo_feed_18_b a b c d e (i : Int) τ = some (.inl (((i + 1 : Nat) : Int), su (su τ 180 n (twF a b c d e i)) 172 16 ((n : Int) + 1))) := by
      unfold Mo_feed_18_b
      have hb : (if (i : Int) < 4 then some a else if (i : Int) < 8 then some b else if (i : Int) < 12 then some c else if (i : Int) < 16 then some d else some e) = some (if i < 4 then a else if i < 8 then b else if i < 12 then c else if i < 16 then d else e) := by
        by_cases c1 : i < 4
        · rw [if_pos c1, if_pos (by omega)]
        rw [if_neg c1, if_neg (by omega)]
        by_cases c1 : i < 8
        · rw [if_pos c1, if_pos (by omega)]
        rw [if_neg c1, if_neg (by omega)]
        by_cases c1 : i < 12
        · rw [if_pos c1, if_pos (by omega)]
        rw [if_neg c1, if_neg (by omega)]
        by_cases c1 : i < 16
        · rw [if_pos c1, if_pos (by omega)]
        rw [if_neg c1, if_neg (by omega)]
      rw [if_pos (by omega), hb, b1_q, ix_q (by omega) (by omega)]
      simp only [ll_q]
      rw [su_c (k' := 172) (by decide), hn, Int.toNat_natCast, wr_q (n := (n : Int) + 1) (by omega) (by omega), wr_q (n := (i : Int) + 1) (by omega) (by omega), Int.tmod_eq_emod_of_nonneg (by omega), show (i : Int) + 1 = ((i + 1 : Nat) : Int) by omega, show (i : Int) % 4 = ((i % 4 : Nat) : Int) by omega]
      rfl
    have e172 : su (su τ 180 n (twF a b c d e i)) 172 16 ((n : Int) + 1) 172 16 = (n : Int) + 1 := by rw [su_s, up_a]
    obtain ⟨τ', g1, g2, g3, g4, g5⟩ := fdM a b c d e m (i + 1) (su (su τ 180 n (twF a b c d e i)) 172 16 ((n : Int) + 1)) (by omega) (by rw [e172]; omega) (by rw [e172]; omega)
    rw [e172] at g1 g2 g3
    refine ⟨τ', ?_, by rw [g2, hn]; omega, fun j => ?_, fun k a b => by rw [g4 k a b, su_c a, su_c b], fun j hj => by rw [g5 j hj, su_s, up_n hj, su_c (by decide)]⟩
    · have ew : Mo_feed_18_w a b c d e (i : Int) τ = Mo_feed_18_w a b c d e ((i + 1 : Nat) : Int) (su (su τ 180 n (twF a b c d e i)) 172 16 ((n : Int) + 1)) := wl_go step
      rw [ew, g1, hn, show (n : Int) + 1 + (m : Int) = (n : Int) + ((m + 1 : Nat) : Int) by omega]
    · rw [g3 j, su_c (k' := 180) (by decide), su_s, hn]
      by_cases c1 : j = n
      · subst c1
        rw [if_neg (by omega), up_a, if_pos (by omega), Int.toNat_natCast, Nat.sub_self, Nat.add_zero]
      · rw [up_n c1]
        by_cases c2 : (n : Int) + 1 ≤ (j : Int) ∧ (j : Int) < (n : Int) + 1 + (m : Int)
        · rw [if_pos c2, if_pos (by omega), show ((n : Int) + 1).toNat = n + 1 by omega, Int.toNat_natCast, show i + 1 + (j - (n + 1)) = i + (j - n) by omega]
        · rw [if_neg c2, if_neg (by omega)]
end Feed
