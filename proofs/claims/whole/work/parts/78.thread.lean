/-! thread: the greatest of some -/
def mx2 (a b : Int) : Int := if a < b then b else a
theorem mx2_q (a b : Int) : a ≤ mx2 a b ∧ b ≤ mx2 a b ∧ (mx2 a b = a ∨ mx2 a b = b) := by unfold mx2; split <;> omega
theorem jmax_q (a b : Int) : Jm_max a b = some (mx2 a b) := by unfold Jm_max mx2; split <;> rfl
theorem grt_q (a b : Int) : Mo_greater a b = some (mx2 a b) := by
  unfold Mo_greater mx2
  by_cases z : a < b
  · rw [if_neg (by omega), if_pos z]
  · rw [if_neg z]
    by_cases z2 : b < a
    · rw [if_pos z2]
    · rw [if_neg z2, show b = a by omega]
def gvF (w d : Nat → Int) (i k : Nat) : Int := if mW w k 6 = i ∧ mW w k 7 = 0 then d k else 0
def mxF (w d : Nat → Int) (i : Nat) : Nat → Nat → Int
  | _, 0 => 0
  | k, m + 1 => mx2 (gvF w d i k) (mxF w d i (k + 1) m)
theorem mxF_in {w d : Nat → Int} {i : Nat} {c : Int} (hc : 0 ≤ c) : ∀ m k, (∀ x, k ≤ x → x < k + m → mW w x 7 = 0 → 0 ≤ d x ∧ d x ≤ c) → 0 ≤ mxF w d i k m ∧ mxF w d i k m ≤ c
  | 0, k, _ => by unfold mxF; omega
  | m + 1, k, h => by
    have h1 := mxF_in (i := i) hc m (k + 1) (fun x a b => h x (by omega) (by omega))
    have h2 : 0 ≤ gvF w d i k ∧ gvF w d i k ≤ c := by
      unfold gvF; split
      · rename_i z; exact h k (by omega) (by omega) z.2
      · omega
    have := mx2_q (gvF w d i k) (mxF w d i (k + 1) m)
    unfold mxF; omega
theorem mxF_co {w d d' : Nat → Int} {i : Nat} : ∀ m k, (∀ x, k ≤ x → d' x = d x) → mxF w d' i k m = mxF w d i k m
  | 0, k, _ => rfl
  | m + 1, k, h => by unfold mxF gvF; rw [h k (by omega), mxF_co m (k + 1) (fun x hx => h x (by omega))]
section Thread
variable {σ τ : Sg}
/-- the reference: the greatest of those that answer one -/
theorem thM (hW : WF (τ 173)) {n i : Nat} (hn : τ 173 3 = n) (best : Int) : ∀ (m k : Nat) (acc : Int), k + m = n → 0 ≤ acc → (∀ x, k ≤ x → x < n → mW (τ 173) x 7 = 0 → 0 ≤ τ 188 x) → Mo_thread_45_w τ (i : Int) best acc (k : Int) = Mo_thread_45_w τ (i : Int) best (mx2 acc (mxF (τ 173) (τ 188) i k m)) (n : Int)
  | 0, k, acc, hk, ha, hd => by
    have : mx2 acc (mxF (τ 173) (τ 188) i k 0) = acc := by
      have := mx2_q acc 0
      unfold mxF; omega
    rw [this, show k = n by omega]
  | m + 1, k, acc, hk, ha, hd => by
    have h60 := hW.2.2.1
    have hM := hW.2.2.2.2 k (by omega)
    have ih := fun acc' ha' => thM hW hn (i := i) best m (k + 1) acc' (by omega) ha' (fun x a b => hd x (by omega) b)
    have o6 := of0_q (τ := τ) (i := k) (f := 6) (by omega) (by decide)
    have o7 := isBack_q (τ := τ) (i := k) (by omega) hM.2.2.2.2.2.2.2.1
    have fin : mx2 acc (mxF (τ 173) (τ 188) i k (m + 1)) = mx2 (mx2 acc (gvF (τ 173) (τ 188) i k)) (mxF (τ 173) (τ 188) i (k + 1) m) := by
      show mx2 acc (mx2 (gvF (τ 173) (τ 188) i k) (mxF (τ 173) (τ 188) i (k + 1) m)) = _
      generalize gvF (τ 173) (τ 188) i k = u
      generalize mxF (τ 173) (τ 188) i (k + 1) m = v
      have a1 := mx2_q u v
      have a2 := mx2_q acc (mx2 u v)
      have a3 := mx2_q acc u
      have a4 := mx2_q (mx2 acc u) v
      omega
    have a0 : mx2 acc 0 = acc := by have := mx2_q acc 0; omega
    rw [fin, ← ih _ (by have := mx2_q acc (gvF (τ 173) (τ 188) i k); omega)]
    refine wl_go ?_
    show Mo_thread_45_b τ (i : Int) best acc (k : Int) = _
    unfold Mo_thread_45_b gvF
    rw [hn, if_pos (by omega), show (6 : Int) = ((6 : Nat) : Int) from rfl, o6, b1_q, o7]
    by_cases h6 : mW (τ 173) k 6 = i
    · rw [if_pos h6, b1_q]
      by_cases h7 : mW (τ 173) k 7 = 0
      · rw [if_pos h7, if_pos ⟨h6, h7⟩, ix_q (by omega) (by omega), grt_q, b1_q, ll_q, wr_q (by omega) (by omega), Int.toNat_natCast]
        rfl
      · rw [if_neg h7, if_neg (fun z => h7 z.2), ll_q, wr_q (by omega) (by omega), a0]
        rfl
    · rw [if_neg h6, if_neg (fun z => h6 z.1), ll_q, wr_q (by omega) (by omega), a0]
      rfl
end Thread
