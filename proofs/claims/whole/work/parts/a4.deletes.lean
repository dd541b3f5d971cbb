/-! deletes: which of his messages one takes back -/
def ooF (w : Nat → Int) (one : Int) (j : Nat) : Prop := mW w j 0 = one ∧ (mW w j 2 = -1 ∧ mW w j 7 = 0)
def cnF (w : Nat → Int) (one : Int) : Nat → Nat
  | 0 => 0
  | n + 1 => cnF w one n + (if mW w n 0 = one ∧ (mW w n 2 = -1 ∧ mW w n 7 = 0) then 1 else 0)
def arF (w : Nat → Int) (one : Int) (n : Nat) (A : Nat → Int) : Prop := ∀ j, j < n → ooF w one j → cnF w one j < 4 → A (cnF w one j) = j
section Deletes
theorem cnF_y {w : Nat → Int} {one : Int} {n : Nat} (h : ooF w one n) : cnF w one (n + 1) = cnF w one n + 1 := by
  show cnF w one n + (if mW w n 0 = one ∧ (mW w n 2 = -1 ∧ mW w n 7 = 0) then 1 else 0) = _
  rw [if_pos (show mW w n 0 = one ∧ (mW w n 2 = -1 ∧ mW w n 7 = 0) from h)]
theorem cnF_n {w : Nat → Int} {one : Int} {n : Nat} (h : ¬ ooF w one n) : cnF w one (n + 1) = cnF w one n := by
  show cnF w one n + (if mW w n 0 = one ∧ (mW w n 2 = -1 ∧ mW w n 7 = 0) then 1 else 0) = _
  rw [if_neg (show ¬ (mW w n 0 = one ∧ (mW w n 2 = -1 ∧ mW w n 7 = 0)) from h)]; rfl
theorem cnF_le {w : Nat → Int} {one : Int} : ∀ n : Nat, cnF w one n ≤ n
  | 0 => Nat.le_refl _
  | n + 1 => by
    have := cnF_le (w := w) (one := one) n
    by_cases h : ooF w one n
    · rw [cnF_y h]; omega
    · rw [cnF_n h]; omega
theorem cnF_mo {w : Nat → Int} {one : Int} : ∀ m n : Nat, cnF w one n ≤ cnF w one (n + m)
  | 0, n => Nat.le_refl _
  | m + 1, n => by
    have := cnF_mo (w := w) (one := one) m n
    rw [show n + (m + 1) = (n + m) + 1 by omega]
    by_cases h : ooF w one (n + m)
    · rw [cnF_y h]; omega
    · rw [cnF_n h]; omega
theorem cnF_ex {w : Nat → Int} {one : Int} {x : Nat} : ∀ m i : Nat, cnF w one i ≤ x → x < cnF w one (i + m) → ∃ j, i ≤ j ∧ j < i + m ∧ ooF w one j ∧ cnF w one j = x
  | 0, i, h1, h2 => by rw [Nat.add_zero] at h2; omega
  | m + 1, i, h1, h2 => by
    by_cases h : x < cnF w one (i + m)
    · obtain ⟨j, j1, j2, j3⟩ := cnF_ex m i h1 h
      exact ⟨j, j1, by omega, j3⟩
    · rw [show i + (m + 1) = (i + m) + 1 by omega] at h2
      by_cases ho : ooF w one (i + m)
      · rw [cnF_y ho] at h2
        exact ⟨i + m, by omega, by omega, ho, by omega⟩
      · rw [cnF_n ho] at h2; omega
variable {σ τ : Sg}
theorem opC {t : Nat} (hT : TR t σ (τ 173)) (hW : WF (τ 173)) {one : Int} {n : Nat} (hn : τ 173 3 = n) : ∀ m i : Nat, i + m = n → Ta_openOf_4_w σ t one (cnF (τ 173) one i : Int) (i : Int) = some (cnF (τ 173) one n : Int)
  | 0, i, hi => by
    rw [show i = n by omega]
    refine wl_end ?_
    show Ta_openOf_4_b σ t one _ (n : Int) = _
    unfold Ta_openOf_4_b
    rw [hT.2.2.1, hn, if_neg (by omega)]
  | m + 1, i, hi => by
    have b60 := hW.2.2.1
    have hi3 : (i : Int) < τ 173 3 := by omega
    have io := isOpen_q hT hi3 b60.2
    have s0 := (TR.g hT hi3).1
    have cl := cnF_le (w := τ 173) (one := one) i
    rw [← opC hT hW hn m (i + 1) (by omega)]
    refine wl_go ?_
    show Ta_openOf_4_b σ t one _ (i : Int) = _
    unfold Ta_openOf_4_b
    rw [hT.2.2.1, hn, if_pos (by omega), ix_q (by omega) (by omega), Int.toNat_natCast, s0, wr_q (n := (i : Int) + 1) (by omega) (by omega)]
    by_cases z0 : mW (τ 173) i 0 = one
    · by_cases z : mW (τ 173) i 2 = -1 ∧ mW (τ 173) i 7 = 0
      · rw [if_pos z0, io, if_pos z, b1_q, if_neg (by decide), wr_q (by omega) (by omega), ll_q, ll_q, cnF_y ⟨z0, z⟩]
        rfl
      · rw [if_pos z0, io, if_neg z, b1_q, i00, wr_q (by omega) (by omega), ll_q, ll_q, cnF_n (fun y => z y.2), Int.add_zero]
        rfl
    · rw [if_neg z0, wr_q (by omega) (by omega), ll_q, ll_q, cnF_n (fun y => z0 y.1), Int.add_zero]
      rfl
/-- the reference: the first four -/
theorem fsM (one a2 a3 : Int) {n : Nat} {w : Nat → Int} (hW : WF w) (hn : w 3 = n) : ∀ (m i : Nat) (τ : Sg), i + m = n → τ 173 = w → arF w one i (τ 183) → ∃ τ', Mo_deletes_39_w one a2 a3 (min 4 (cnF w one i) : Nat) (i : Int) τ = (Mo_deletes_108_w (min 4 (cnF w one n) : Nat) a2 one a3 (-1) 100000000 0 τ').bind (fun x => match x with | .inl q => Mo_deletes_39_w one a2 a3 q.1 q.2.1 q.2.2 | .inr r => some r) ∧ arF w one n (τ' 183) ∧ ∀ c, c ≠ 183 → τ' c = τ c := by
  have b60 := hW.2.2.1
  have fin : ∀ (i : Nat) (τ : Sg), τ 173 = w → ¬ ((i : Int) < w 3 ∧ cnF w one i < 4) → Mo_deletes_39_w one a2 a3 (min 4 (cnF w one i) : Nat) (i : Int) τ = (Mo_deletes_108_w (min 4 (cnF w one i) : Nat) a2 one a3 (-1) 100000000 0 τ).bind (fun x => match x with | .inl q => Mo_deletes_39_w one a2 a3 q.1 q.2.1 q.2.2 | .inr r => some r) := by
    intro i τ hw hz
    have e : Mo_deletes_39_b one a2 a3 (min 4 (cnF w one i) : Nat) (i : Int) τ = Mo_deletes_108_w (min 4 (cnF w one i) : Nat) a2 one a3 (-1) 100000000 0 τ := by
      have t : (if (i : Int) < w 3 then if ((min 4 (cnF w one i) : Nat) : Int) < 4 then some 0 else some 1 else some 1) = some (1 : Int) := by
        by_cases y : (i : Int) < w 3
        · rw [if_pos y, if_neg (by omega)]
        · rw [if_neg y]
      unfold Mo_deletes_39_b
      rw [hw, t, b1_q, if_neg (by decide)]
    show wl _ _ = _
    rw [wl_eq]
    show (Mo_deletes_39_b one a2 a3 (min 4 (cnF w one i) : Nat) (i : Int) τ).bind _ = _
    rw [e]
    congr 1
    funext x
    cases x <;> rfl
  intro m
  induction m with
  | zero =>
    intro i τ hi hw hA
    have e : i = n := by omega
    subst e
    exact ⟨τ, fin i τ hw (by omega), hA, fun _ _ => rfl⟩
  | succ m ih =>
    intro i τ hi hw hA
    by_cases h4 : cnF w one i < 4
    · have m7 := (hW.2.2.2.2 i (by omega)).2.2.2.2.2.2.2.1
      have o0 := of_0 (τ := τ) (i := i) (by omega)
      have iu := isUnread_q (τ := τ) (i := i) (by omega) (by rw [hw]; exact m7)
      rw [hw] at o0 iu
      have t : (if (i : Int) < w 3 then if ((min 4 (cnF w one i) : Nat) : Int) < 4 then some 0 else some 1 else some 1) = some (0 : Int) := by
        rw [if_pos (by omega), if_pos (by omega)]
      by_cases ho : ooF w one i
      · obtain ⟨τ', g1, g2, g3⟩ := ih (i + 1) (su τ 183 (cnF w one i) i) (by omega) (by rw [su_c (by decide)]; exact hw) (fun j hj hoj hcj => by
          rw [su_s]
          by_cases e : j = i
          · rw [e, up_a]
          · have : cnF w one j < cnF w one i := by
              have h1 := cnF_mo (w := w) (one := one) (i - (j + 1)) (j + 1)
              rw [cnF_y hoj, show j + 1 + (i - (j + 1)) = i by omega] at h1
              omega
            rw [up_n (by omega)]
            exact hA j (by omega) hoj hcj)
        refine ⟨τ', ?_, g2, fun c hc => by rw [g3 c hc, su_c hc]⟩
        rw [← g1, cnF_y ho]
        refine wl_go ?_
        show Mo_deletes_39_b one a2 a3 _ (i : Int) τ = _
        unfold Mo_deletes_39_b
        rw [hw, t, b1_q, i00, o0, b1_q, if_pos ho.1, iu, if_pos ho.2, b1_q, if_neg (by decide), ix_q (by omega) (by omega), ll_q, wr_q (n := ((min 4 (cnF w one i) : Nat) : Int) + 1) (by omega) (by omega), wr_q (by omega) (by omega), ll_q, ll_q, Int.toNat_natCast, show min 4 (cnF w one i) = cnF w one i by omega, show min 4 (cnF w one i + 1) = cnF w one i + 1 by omega]
        rfl
      · obtain ⟨τ', g1, g2, g3⟩ := ih (i + 1) τ (by omega) hw (fun j hj hoj hcj => by
          by_cases e : j = i
          · rw [e] at hoj; exact absurd hoj ho
          · exact hA j (by omega) hoj hcj)
        refine ⟨τ', ?_, g2, g3⟩
        rw [← g1, cnF_n ho]
        refine wl_go ?_
        show Mo_deletes_39_b one a2 a3 _ (i : Int) τ = _
        unfold Mo_deletes_39_b
        rw [hw, t, b1_q, i00, o0, b1_q, wr_q (n := (i : Int) + 1) (by omega) (by omega)]
        by_cases z0 : mW w i 0 = one
        · rw [if_pos z0, iu, if_neg (fun y => ho ⟨z0, y⟩), b1_q, i00, ll_q]
          rfl
        · rw [if_neg z0, ll_q]
          rfl
    · have hmo := cnF_mo (w := w) (one := one) (n - i) i
      rw [show i + (n - i) = n by omega] at hmo
      have e4 : min 4 (cnF w one n) = min 4 (cnF w one i) := by omega
      refine ⟨τ, ?_, fun j hj hoj hcj => ?_, fun _ _ => rfl⟩
      · rw [e4]; exact fin i τ hw (by omega)
      · have : j < i := by
          rcases Nat.lt_or_ge j i with y | y
          · exact y
          · have h1 := cnF_mo (w := w) (one := one) (j - i) i
            rw [show i + (j - i) = j by omega] at h1
            omega
        exact hA j this hoj hcj
end Deletes
