/-! sure -/
theorem bv_lt {x : BitVec 32} {n : Nat} (hn : n ≤ 32) : x.toNat < 2 ^ n ↔ ∀ i, n ≤ i → x.getLsbD i = false := by
  constructor
  · intro h i hi
    show x.toNat.testBit i = false
    exact Nat.testBit_lt_two_pow (Nat.lt_of_lt_of_le h (Nat.pow_le_pow_right (by decide) hi))
  · intro h
    exact Nat.lt_pow_two_of_testBit _ (fun i hi => h i hi)
theorem mk_bits : ∀ n : Fin 9, ∀ i : Fin 32, (Int32.ofInt (bXor (wr (bShl 1 (n.val : Int) - 1)) (-1))).toBitVec.getLsbD i.val = decide (n.val ≤ i.val) := by decide +kernel
theorem mk_all : ∀ n : Fin 9, wr (bShl 1 (n.val : Int) - 1) = ((2 ^ n.val - 1 : Nat) : Int) := by decide +kernel
theorem i32_nat {a : Int} (ha : inR a) {n : Nat} (hn : n ≤ 8) : (0 ≤ a ∧ a ≤ ((2 ^ n - 1 : Nat) : Int)) ↔ (Int32.ofInt a).toBitVec.toNat < 2 ^ n := by
  have hp : 2 ^ n ≤ 2 ^ 8 := Nat.pow_le_pow_right (by decide) hn
  have hq : 0 < 2 ^ n := Nat.pow_pos (by decide)
  unfold inR at ha
  rw [Int32.toBitVec_ofInt, BitVec.toNat_ofInt]
  omega
theorem bits_in {a b : Int} (ha : inR a) (hb : inR b) {n : Nat} (hn : n ≤ 8) : bAnd (bOr a b) (bXor (wr (bShl 1 (n : Int) - 1)) (-1)) = 0 ↔ (0 ≤ a ∧ a ≤ ((2 ^ n - 1 : Nat) : Int)) ∧ (0 ≤ b ∧ b ≤ ((2 ^ n - 1 : Nat) : Int)) := by
  rw [i32_nat ha hn, i32_nat hb hn, bv_lt (by omega), bv_lt (by omega)]
  have mb := fun i (hi : i < 32) => mk_bits ⟨n, by omega⟩ ⟨i, hi⟩
  dsimp only at mb
  generalize hM : bXor (wr (bShl 1 (n : Int) - 1)) (-1) = M at mb ⊢
  unfold bAnd bOr
  rw [Int32.ofInt_toInt]
  generalize Int32.ofInt a = x
  generalize Int32.ofInt b = y
  generalize Int32.ofInt M = z at mb ⊢
  have e : ((x ||| y) &&& z).toInt = 0 ↔ (x.toBitVec ||| y.toBitVec) &&& z.toBitVec = 0#32 := by
    constructor
    · intro h
      have h1 : ((x ||| y) &&& z) = 0 := by rw [← Int32.toInt_inj]; exact h
      exact congrArg Int32.toBitVec h1
    · intro h
      have h1 : ((x ||| y) &&& z) = 0 := Int32.toBitVec_inj.mp h
      rw [h1]; rfl
  rw [e]
  constructor
  · intro h
    have k : ∀ i, n ≤ i → x.toBitVec.getLsbD i = false ∧ y.toBitVec.getLsbD i = false := by
      intro i hi
      by_cases h32 : i < 32
      · have g := congrArg (fun v => BitVec.getLsbD v i) h
        simp only [BitVec.getLsbD_and, BitVec.getLsbD_or, BitVec.getLsbD_zero, mb i h32, decide_eq_true hi, Bool.and_true, Bool.or_eq_false_iff] at g
        exact g
      · exact ⟨BitVec.getLsbD_of_ge _ _ (by omega), BitVec.getLsbD_of_ge _ _ (by omega)⟩
    exact ⟨fun i hi => (k i hi).1, fun i hi => (k i hi).2⟩
  · intro h
    apply BitVec.eq_of_getLsbD_eq
    intro i hi
    rw [BitVec.getLsbD_and, BitVec.getLsbD_or, mb i hi, BitVec.getLsbD_zero]
    by_cases hni : n ≤ i
    · rw [h.1 i hni, h.2 i hni]; rfl
    · rw [decide_eq_false hni, Bool.and_false]
theorem bit_01 (x : Int) : bAnd x 1 = 0 ∨ bAnd x 1 = 1 := by
  have := bAnd_mask (x := x) (m := 1) (by decide)
  simp only [Int.cast_ofNat_Int] at this
  omega
section Sure
variable {σ τ : Sg}
theorem p_sure (h : Inv σ τ) (a b d : Int) (ha : inR a) (hb : inR b) (hd : inR d) : Same1 (Td_sure a b d σ) (Mo_sure a b d τ) := by
  obtain ⟨⟨hT, hW, hM, hS, hB⟩, hP, hI, hR⟩ := h
  have hBR : BR (σ 26) (σ 27) (τ 173) := hS.2.2.2.1
  have hn := hBR.2.1
  obtain ⟨n, en⟩ := Int.eq_ofNat_of_zero_le hn.1
  have hn8 : n ≤ 8 := by omega
  have ma := mk_all ⟨n, by omega⟩
  dsimp only at ma
  have hbi := bits_in hb hd hn8
  unfold Td_sure Mo_sure Mo_areSigns Wo_signs
  rw [within_q, isIn_q, isIn_q, isIn_q]
  simp only [b1_q, ll_q]
  rw [show (1 + 25 : Nat) = 26 from rfl, hBR.1, en]
  by_cases hc : 0 ≤ a ∧ a ≤ 1000
  · rw [if_pos hc, i10, i10]
    by_cases h2 : (0 ≤ b ∧ b ≤ ((2 ^ n - 1 : Nat) : Int)) ∧ (0 ≤ d ∧ d ≤ ((2 ^ n - 1 : Nat) : Int))
    · have h3 := hbi.mpr h2
      rw [if_pos (c := bAnd (bOr b d) _ = 0) h3, ma, if_pos h2.1, if_pos h2.2, i10, i10]
      by_cases h4 : bAnd b d = 0
      · rw [if_pos h4, if_pos h4, wr_q (n := a * 1000) (by omega) (by omega), wrJ_q (n := 1000 * a) (by omega) (by omega), Int.mul_comm a 1000]
        have key := wl_two (B := fun p : Int × Int => Td_sure_53_b σ b d p.1 p.2) (B' := fun p : Int × Int => Mo_sure_46_b τ b d p.1 p.2) (fun p => (τ 173 553 - p.2).toNat) (fun p q => p = q ∧ (0 ≤ p.1 ∧ p.1 ≤ 1000000) ∧ 0 ≤ p.2 ∧ p.2 ≤ τ 173 553) (fun r r' => r = r') (by
          rintro ⟨q, k⟩ ⟨q', k'⟩ ⟨e, h1, h2⟩
          cases e
          dsimp only at h1 h2 ⊢
          unfold Td_sure_53_b Mo_sure_46_b Wo_signs
          rw [b1_q, show (1 + 25 : Nat) = 26 from rfl, hBR.1]
          by_cases hk : k < τ 173 553
          · right
            obtain ⟨i, rfl⟩ := Int.eq_ofNat_of_zero_le h2.1
            rw [if_pos hk, if_pos hk]
            rcases bit_01 (bShr (bOr b d) (i : Int)) with hz | hz
            · rw [hz, i00, if_neg (by decide)]
              simp only [ll_q]
              rw [wr_q (by omega) (by omega)]
              exact ⟨_, _, rfl, rfl, ⟨rfl, h1, by dsimp only; omega⟩, by dsimp only; omega⟩
            · rw [hz, i10, if_pos rfl]
              rcases bit_01 (bShr b (i : Int)) with hy | hy
              · rw [hy, i00, if_neg (by decide), b1_q, b1_q, signC hBR h1 hk, signM hBR h1 hk, b1_q, b1_q]
                simp only [ll_q]
                rw [wr_q (by omega) (by omega)]
                exact ⟨_, _, rfl, rfl, ⟨rfl, sg_in hBR h1 hk 0, by dsimp only; omega⟩, by dsimp only; omega⟩
              · rw [hy, i10, if_pos rfl, b1_q, b1_q, signC hBR h1 hk, signM hBR h1 hk, b1_q, b1_q]
                simp only [ll_q]
                rw [wr_q (by omega) (by omega)]
                exact ⟨_, _, rfl, rfl, ⟨rfl, sg_in hBR h1 hk 1, by dsimp only; omega⟩, by dsimp only; omega⟩
          · left; exact ⟨q, q, by rw [if_neg hk], by rw [if_neg hk, wr_q (by omega) (by omega)], rfl⟩) (1000 * a, 0) (1000 * a, 0) ⟨rfl, by dsimp only; omega, by dsimp only; omega⟩
        obtain ⟨r, r', h1, h2, h3⟩ := key
        exact ⟨r, h1, by rw [h3]; exact h2⟩
      · rw [if_neg h4, if_neg h4]; exact ⟨_, rfl, rfl⟩
    · have h3 := fun z => h2 (hbi.mp z)
      rw [if_neg (c := bAnd (bOr b d) _ = 0) h3, ma]
      refine ⟨-1, by split <;> rfl, ?_⟩
      by_cases h5 : 0 ≤ b ∧ b ≤ ((2 ^ n - 1 : Nat) : Int)
      · rw [if_pos h5, i10, if_neg (fun z => h2 ⟨h5, z⟩), i00]
      · rw [if_neg h5, i00]
  · rw [if_neg hc, i00, i00]; exact ⟨_, rfl, rfl⟩
end Sure
